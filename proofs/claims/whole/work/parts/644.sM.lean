theorem d_M_sort_0 : decode b_M_sort 0 = .ok (.iconst 1, 1) := by decide +kernel
theorem d_M_sort_1 : decode b_M_sort 1 = .ok (.istore_n 1, 1) := by decide +kernel
theorem d_M_sort_2 : decode b_M_sort 2 = .ok (.iload_n 1, 1) := by decide +kernel
theorem d_M_sort_3 : decode b_M_sort 3 = .ok (.aload_n 0, 1) := by decide +kernel
theorem d_M_sort_4 : decode b_M_sort 4 = .ok (.getfield 164, 3) := by decide +kernel
theorem d_M_sort_7 : decode b_M_sort 7 = .ok (.if_icmp .ge 68, 3) := by decide +kernel
theorem d_M_sort_10 : decode b_M_sort 10 = .ok (.aload_n 0, 1) := by decide +kernel
theorem d_M_sort_11 : decode b_M_sort 11 = .ok (.getfield 37, 3) := by decide +kernel
theorem d_M_sort_14 : decode b_M_sort 14 = .ok (.iload_n 1, 1) := by decide +kernel
theorem d_M_sort_15 : decode b_M_sort 15 = .ok (.daload, 1) := by decide +kernel
theorem d_M_sort_16 : decode b_M_sort 16 = .ok (.dstore_n 2, 1) := by decide +kernel
theorem d_M_sort_17 : decode b_M_sort 17 = .ok (.iload_n 1, 1) := by decide +kernel
theorem d_M_sort_18 : decode b_M_sort 18 = .ok (.istore 4, 2) := by decide +kernel
theorem d_M_sort_20 : decode b_M_sort 20 = .ok (.iload 4, 2) := by decide +kernel
theorem d_M_sort_22 : decode b_M_sort 22 = .ok (.ifCond .le 39, 3) := by decide +kernel
theorem d_M_sort_25 : decode b_M_sort 25 = .ok (.aload_n 0, 1) := by decide +kernel
theorem d_M_sort_26 : decode b_M_sort 26 = .ok (.getfield 37, 3) := by decide +kernel
theorem d_M_sort_29 : decode b_M_sort 29 = .ok (.iload 4, 2) := by decide +kernel
theorem d_M_sort_31 : decode b_M_sort 31 = .ok (.iconst 1, 1) := by decide +kernel
theorem d_M_sort_32 : decode b_M_sort 32 = .ok (.isub, 1) := by decide +kernel
theorem d_M_sort_33 : decode b_M_sort 33 = .ok (.daload, 1) := by decide +kernel
theorem d_M_sort_34 : decode b_M_sort 34 = .ok (.dload_n 2, 1) := by decide +kernel
theorem d_M_sort_35 : decode b_M_sort 35 = .ok (.dcmp .l, 1) := by decide +kernel
theorem d_M_sort_36 : decode b_M_sort 36 = .ok (.ifCond .le 25, 3) := by decide +kernel
theorem d_M_sort_39 : decode b_M_sort 39 = .ok (.aload_n 0, 1) := by decide +kernel
theorem d_M_sort_40 : decode b_M_sort 40 = .ok (.getfield 37, 3) := by decide +kernel
theorem d_M_sort_43 : decode b_M_sort 43 = .ok (.iload 4, 2) := by decide +kernel
theorem d_M_sort_45 : decode b_M_sort 45 = .ok (.aload_n 0, 1) := by decide +kernel
theorem d_M_sort_46 : decode b_M_sort 46 = .ok (.getfield 37, 3) := by decide +kernel
theorem d_M_sort_49 : decode b_M_sort 49 = .ok (.iload 4, 2) := by decide +kernel
theorem d_M_sort_51 : decode b_M_sort 51 = .ok (.iconst 1, 1) := by decide +kernel
theorem d_M_sort_52 : decode b_M_sort 52 = .ok (.isub, 1) := by decide +kernel
theorem d_M_sort_53 : decode b_M_sort 53 = .ok (.daload, 1) := by decide +kernel
theorem d_M_sort_54 : decode b_M_sort 54 = .ok (.dastore, 1) := by decide +kernel
theorem d_M_sort_55 : decode b_M_sort 55 = .ok (.iinc 4 (-1), 3) := by decide +kernel
theorem d_M_sort_58 : decode b_M_sort 58 = .ok (.goto (-38), 3) := by decide +kernel
theorem d_M_sort_61 : decode b_M_sort 61 = .ok (.aload_n 0, 1) := by decide +kernel
theorem d_M_sort_62 : decode b_M_sort 62 = .ok (.getfield 37, 3) := by decide +kernel
theorem d_M_sort_65 : decode b_M_sort 65 = .ok (.iload 4, 2) := by decide +kernel
theorem d_M_sort_67 : decode b_M_sort 67 = .ok (.dload_n 2, 1) := by decide +kernel
theorem d_M_sort_68 : decode b_M_sort 68 = .ok (.dastore, 1) := by decide +kernel
theorem d_M_sort_69 : decode b_M_sort 69 = .ok (.iinc 1 1, 3) := by decide +kernel
theorem d_M_sort_72 : decode b_M_sort 72 = .ok (.goto (-70), 3) := by decide +kernel
theorem d_M_sort_75 : decode b_M_sort 75 = .ok (.return_, 1) := by decide +kernel
theorem p_M_sort_b61 (d : Nat) (b2 : Option Nat → Int32 → gk_H → Option (Unit × gk_H)) (q2 : ∀ (v0 : Option Nat) (v1 : Int32) (h : gk_H), gk_P gw_V d y_M_sort b_M_sort 5 none [] (b2 v0 v1 h) 2 [(0, va_rf v0), (1, .int v1)] [] h) (v0 : Option Nat) (v1 : Int32) (v2 : UInt64) (v4 : Int32) (h : gk_H) : gk_P gw_V d y_M_sort b_M_sort 5 none [] (f_M_sort_b61 b2 v0 v1 v2 v4 h) 61 [(0, va_rf v0), (1, .int v1), (2, .double v2), (4, .int v4)] [] h := by
  unfold f_M_sort_b61
  refine gk_aload_n (pc := 61) 0 d_M_sort_61 rfl ?_
  refine gk_getR (pc := 62) 7 13 d_M_sort_62 rfl (Nat.le_of_ble_eq_true rfl) tw_1658 fun x1 => ?_
  refine gk_iload (pc := 65) 3 d_M_sort_65 rfl ?_
  refine gk_dload_n (pc := 67) 2 d_M_sort_67 rfl ?_
  refine gk_dast (pc := 68) d_M_sort_68 fun h1 => ?_
  refine gk_iincN (pc := 69) 1 (1 : Int32) (L' := fun x2 => [(1, .int x2), (0, va_rf v0), (2, .double v2), (4, .int v4)]) d_M_sort_69 rfl rfl (Nat.le_of_ble_eq_true rfl) (fun _ => by simp [gk_s1, gk_cat_rf, gk_catI, gk_catJ, gk_catD] <;> decide) fun x2 => ?_
  refine gk_goto (pc := 72) 2 d_M_sort_72 rfl ?_
  refine gk_weak [1, 0] (L' := [(0, va_rf v0), (1, .int x2)]) rfl ?_
  exact q2 v0 x2 h1
theorem p_M_sort_b20 (d : Nat) (b2 : Option Nat → Int32 → gk_H → Option (Unit × gk_H)) (q2 : ∀ (v0 : Option Nat) (v1 : Int32) (h : gk_H), gk_P gw_V d y_M_sort b_M_sort 5 none [] (b2 v0 v1 h) 2 [(0, va_rf v0), (1, .int v1)] [] h) : ∀ (fu : Nat) (v0 : Option Nat) (v1 : Int32) (v2 : UInt64) (v4 : Int32) (h : gk_H), gk_P gw_V d y_M_sort b_M_sort 5 none [] (f_M_sort_b20 b2 fu v0 v1 v2 v4 h) 20 [(0, va_rf v0), (1, .int v1), (2, .double v2), (4, .int v4)] [] h := by
  intro fu
  induction fu with
  | zero => intros; exact gk_none
  | succ fu q20 =>
    intro v0 v1 v2 v4 h
    rw [f_M_sort_b20]
    refine gk_iload (pc := 20) 3 d_M_sort_20 rfl ?_
    refine gk_if_le (pc := 22) 61 d_M_sort_22 rfl (fun _ => ?_) (fun _ => ?_)
    · exact p_M_sort_b61 d b2 q2 v0 v1 v2 v4 h
    · refine gk_aload_n (pc := 25) 0 d_M_sort_25 rfl ?_
      refine gk_getR (pc := 26) 7 13 d_M_sort_26 rfl (Nat.le_of_ble_eq_true rfl) tw_1658 fun x1 => ?_
      refine gk_iload (pc := 29) 3 d_M_sort_29 rfl ?_
      refine gk_iconst (pc := 31) (1 : Int32) d_M_sort_31 rfl ?_
      refine gk_isub (pc := 32) d_M_sort_32 ?_
      refine gk_dald (pc := 33) d_M_sort_33 fun x2 => ?_
      refine gk_dload_n (pc := 34) 2 d_M_sort_34 rfl ?_
      refine gk_dcmp (pc := 35) d_M_sort_35 ?_
      refine gk_if_le (pc := 36) 61 d_M_sort_36 rfl (fun _ => ?_) (fun _ => ?_)
      · exact p_M_sort_b61 d b2 q2 v0 v1 v2 v4 h
      · refine gk_aload_n (pc := 39) 0 d_M_sort_39 rfl ?_
        refine gk_getR (pc := 40) 7 13 d_M_sort_40 rfl (Nat.le_of_ble_eq_true rfl) tw_1658 fun x3 => ?_
        refine gk_iload (pc := 43) 3 d_M_sort_43 rfl ?_
        refine gk_aload_n (pc := 45) 0 d_M_sort_45 rfl ?_
        refine gk_getR (pc := 46) 7 13 d_M_sort_46 rfl (Nat.le_of_ble_eq_true rfl) tw_1658 fun x4 => ?_
        refine gk_iload (pc := 49) 3 d_M_sort_49 rfl ?_
        refine gk_iconst (pc := 51) (1 : Int32) d_M_sort_51 rfl ?_
        refine gk_isub (pc := 52) d_M_sort_52 ?_
        refine gk_dald (pc := 53) d_M_sort_53 fun x5 => ?_
        refine gk_dast (pc := 54) d_M_sort_54 fun h1 => ?_
        refine gk_iincN (pc := 55) 3 (-1 : Int32) (L' := fun x6 => [(4, .int x6), (0, va_rf v0), (1, .int v1), (2, .double v2)]) d_M_sort_55 rfl rfl (Nat.le_of_ble_eq_true rfl) (fun _ => rfl) fun x6 => ?_
        refine gk_goto (pc := 58) 20 d_M_sort_58 rfl ?_
        refine gk_weak [1, 2, 3, 0] (L' := [(0, va_rf v0), (1, .int v1), (2, .double v2), (4, .int x6)]) rfl ?_
        exact q20 v0 v1 v2 x6 h1
theorem p_M_sort_b2 (d : Nat)  : ∀ (fu : Nat) (v0 : Option Nat) (v1 : Int32) (h : gk_H), gk_P gw_V d y_M_sort b_M_sort 5 none [] (f_M_sort_b2  fu v0 v1 h) 2 [(0, va_rf v0), (1, .int v1)] [] h := by
  intro fu
  induction fu with
  | zero => intros; exact gk_none
  | succ fu q2 =>
    intro v0 v1 h
    rw [f_M_sort_b2]
    refine gk_iload_n (pc := 2) 1 d_M_sort_2 rfl ?_
    refine gk_aload_n (pc := 3) 0 d_M_sort_3 rfl ?_
    refine gk_getI (pc := 4) 7 12 d_M_sort_4 rfl (Nat.le_of_ble_eq_true rfl) tw_1657 fun x1 => ?_
    refine gk_icmp_ge (pc := 7) 75 d_M_sort_7 rfl (fun _ => ?_) (fun _ => ?_)
    · exact gk_vret (pc := 75) rfl d_M_sort_75 rfl
    · refine gk_aload_n (pc := 10) 0 d_M_sort_10 rfl ?_
      refine gk_getR (pc := 11) 7 13 d_M_sort_11 rfl (Nat.le_of_ble_eq_true rfl) tw_1658 fun x2 => ?_
      refine gk_iload_n (pc := 14) 1 d_M_sort_14 rfl ?_
      refine gk_dald (pc := 15) d_M_sort_15 fun x3 => ?_
      refine gk_dstore_n (pc := 16) (L' := [(2, .double x3), (0, va_rf v0), (1, .int v1)]) d_M_sort_16 (Nat.le_of_ble_eq_true rfl) rfl ?_
      refine gk_iload_n (pc := 17) 2 d_M_sort_17 rfl ?_
      refine gk_istore (pc := 18) (L' := [(4, .int v1), (2, .double x3), (0, va_rf v0), (1, .int v1)]) d_M_sort_18 (Nat.le_of_ble_eq_true rfl) rfl ?_
      refine gk_weak [2, 3, 1, 0] (L' := [(0, va_rf v0), (1, .int v1), (2, .double x3), (4, .int v1)]) rfl ?_
      exact p_M_sort_b20 d (f_M_sort_b2 fu) q2 gk_F v0 v1 x3 v1 h
theorem w_M_sort (d : Nat) (a0 : Option Nat) (h : gk_H) : gk_P gw_V d y_M_sort b_M_sort 5 none [] (f_M_sort a0 h) 0 [(0, va_rf a0)] [] h := by
  unfold f_M_sort
  refine gk_iconst (pc := 0) (1 : Int32) d_M_sort_0 rfl ?_
  refine gk_istore_n (pc := 1) (L' := [(1, .int (1 : Int32)), (0, va_rf a0)]) d_M_sort_1 (Nat.le_of_ble_eq_true rfl) (by simp [gk_s1, gk_s2, gk_cat_rf, gk_catI, gk_catJ, gk_catD] <;> decide) ?_
  refine gk_weak [1, 0] (L' := [(0, va_rf a0), (1, .int (1 : Int32))]) rfl ?_
  exact p_M_sort_b2 d gk_F a0 (1 : Int32) h
theorem p_M_sort (d : Nat) (a0 : Option Nat) (h : gk_H) : ∀ r h1, f_M_sort a0 h = some (r, h1) → gk_M d y_M_sort b_M_sort 5 none [va_rf a0] h (.inl (gv_V r)) h1 :=
  fun r h1 e => gk_M_of2 (by decide +kernel) (by simp [lv_args, gk_cat_rf, gk_catI, gk_catJ, gk_catD, gv_V, gv_I, gv_J, gv_D, gv_R]) (by simp [lg_sl, gk_cat_rf, gk_catI, gk_catJ, gk_catD, gv_V, gv_I, gv_J, gv_D, gv_R]) (w_M_sort d a0 h r h1 e)
theorem d_M_ranks_0 : decode b_M_ranks 0 = .ok (.aload_n 0, 1) := by decide +kernel
theorem d_M_ranks_1 : decode b_M_ranks 1 = .ok (.iconst 0, 1) := by decide +kernel
theorem d_M_ranks_2 : decode b_M_ranks 2 = .ok (.putfield 164, 3) := by decide +kernel
theorem d_M_ranks_5 : decode b_M_ranks 5 = .ok (.iload_n 1, 1) := by decide +kernel
theorem d_M_ranks_6 : decode b_M_ranks 6 = .ok (.bipush 12, 2) := by decide +kernel
theorem d_M_ranks_8 : decode b_M_ranks 8 = .ok (.if_icmp .ne 108, 3) := by decide +kernel
theorem d_M_ranks_11 : decode b_M_ranks 11 = .ok (.aload_n 0, 1) := by decide +kernel
theorem d_M_ranks_12 : decode b_M_ranks 12 = .ok (.iload_n 2, 1) := by decide +kernel
theorem d_M_ranks_13 : decode b_M_ranks 13 = .ok (.invokevirtual 137, 3) := by decide +kernel
theorem d_M_ranks_16 : decode b_M_ranks 16 = .ok (.dstore_n 3, 1) := by decide +kernel
theorem d_M_ranks_17 : decode b_M_ranks 17 = .ok (.aload_n 0, 1) := by decide +kernel
theorem d_M_ranks_18 : decode b_M_ranks 18 = .ok (.iload_n 2, 1) := by decide +kernel
theorem d_M_ranks_19 : decode b_M_ranks 19 = .ok (.iconst 1, 1) := by decide +kernel
theorem d_M_ranks_20 : decode b_M_ranks 20 = .ok (.iadd, 1) := by decide +kernel
theorem d_M_ranks_21 : decode b_M_ranks 21 = .ok (.invokevirtual 293, 3) := by decide +kernel
theorem d_M_ranks_24 : decode b_M_ranks 24 = .ok (.iconst 0, 1) := by decide +kernel
theorem d_M_ranks_25 : decode b_M_ranks 25 = .ok (.istore 5, 2) := by decide +kernel
theorem d_M_ranks_27 : decode b_M_ranks 27 = .ok (.iconst 0, 1) := by decide +kernel
theorem d_M_ranks_28 : decode b_M_ranks 28 = .ok (.istore 6, 2) := by decide +kernel
theorem d_M_ranks_30 : decode b_M_ranks 30 = .ok (.iconst 0, 1) := by decide +kernel
theorem d_M_ranks_31 : decode b_M_ranks 31 = .ok (.istore 7, 2) := by decide +kernel
theorem d_M_ranks_33 : decode b_M_ranks 33 = .ok (.iload 7, 2) := by decide +kernel
theorem d_M_ranks_35 : decode b_M_ranks 35 = .ok (.aload_n 0, 1) := by decide +kernel
theorem d_M_ranks_36 : decode b_M_ranks 36 = .ok (.getfield 164, 3) := by decide +kernel
theorem d_M_ranks_39 : decode b_M_ranks 39 = .ok (.if_icmp .ge 56, 3) := by decide +kernel
theorem d_M_ranks_42 : decode b_M_ranks 42 = .ok (.aload_n 0, 1) := by decide +kernel
theorem d_M_ranks_43 : decode b_M_ranks 43 = .ok (.getfield 37, 3) := by decide +kernel
theorem d_M_ranks_46 : decode b_M_ranks 46 = .ok (.iload 7, 2) := by decide +kernel
theorem d_M_ranks_48 : decode b_M_ranks 48 = .ok (.daload, 1) := by decide +kernel
theorem d_M_ranks_49 : decode b_M_ranks 49 = .ok (.dload_n 3, 1) := by decide +kernel
theorem d_M_ranks_50 : decode b_M_ranks 50 = .ok (.dcmp .l, 1) := by decide +kernel
theorem d_M_ranks_51 : decode b_M_ranks 51 = .ok (.ifCond .le 10, 3) := by decide +kernel
theorem d_M_ranks_54 : decode b_M_ranks 54 = .ok (.iload 5, 2) := by decide +kernel
theorem d_M_ranks_56 : decode b_M_ranks 56 = .ok (.iconst 1, 1) := by decide +kernel
theorem d_M_ranks_57 : decode b_M_ranks 57 = .ok (.iadd, 1) := by decide +kernel
theorem d_M_ranks_58 : decode b_M_ranks 58 = .ok (.goto 5, 3) := by decide +kernel
theorem d_M_ranks_61 : decode b_M_ranks 61 = .ok (.iload 5, 2) := by decide +kernel
theorem d_M_ranks_63 : decode b_M_ranks 63 = .ok (.istore 5, 2) := by decide +kernel
theorem d_M_ranks_65 : decode b_M_ranks 65 = .ok (.iload 6, 2) := by decide +kernel
theorem d_M_ranks_67 : decode b_M_ranks 67 = .ok (.ifCond .ne 15, 3) := by decide +kernel
theorem d_M_ranks_70 : decode b_M_ranks 70 = .ok (.aload_n 0, 1) := by decide +kernel
theorem d_M_ranks_71 : decode b_M_ranks 71 = .ok (.getfield 37, 3) := by decide +kernel
theorem d_M_ranks_74 : decode b_M_ranks 74 = .ok (.iload 7, 2) := by decide +kernel
theorem d_M_ranks_76 : decode b_M_ranks 76 = .ok (.daload, 1) := by decide +kernel
theorem d_M_ranks_77 : decode b_M_ranks 77 = .ok (.dload_n 3, 1) := by decide +kernel
theorem d_M_ranks_78 : decode b_M_ranks 78 = .ok (.dcmp .l, 1) := by decide +kernel
theorem d_M_ranks_79 : decode b_M_ranks 79 = .ok (.ifCond .ne 7, 3) := by decide +kernel
theorem d_M_ranks_82 : decode b_M_ranks 82 = .ok (.iconst 1, 1) := by decide +kernel
theorem d_M_ranks_83 : decode b_M_ranks 83 = .ok (.goto 4, 3) := by decide +kernel
theorem d_M_ranks_86 : decode b_M_ranks 86 = .ok (.iconst 0, 1) := by decide +kernel
theorem d_M_ranks_87 : decode b_M_ranks 87 = .ok (.istore 6, 2) := by decide +kernel
theorem d_M_ranks_89 : decode b_M_ranks 89 = .ok (.iinc 7 1, 3) := by decide +kernel
theorem d_M_ranks_92 : decode b_M_ranks 92 = .ok (.goto (-59), 3) := by decide +kernel
theorem d_M_ranks_95 : decode b_M_ranks 95 = .ok (.iload 6, 2) := by decide +kernel
theorem d_M_ranks_97 : decode b_M_ranks 97 = .ok (.ifCond .ne 9, 3) := by decide +kernel
theorem d_M_ranks_100 : decode b_M_ranks 100 = .ok (.aload_n 0, 1) := by decide +kernel
theorem d_M_ranks_101 : decode b_M_ranks 101 = .ok (.bipush 7, 2) := by decide +kernel
theorem d_M_ranks_103 : decode b_M_ranks 103 = .ok (.invokevirtual 58, 3) := by decide +kernel
theorem d_M_ranks_106 : decode b_M_ranks 106 = .ok (.aload_n 0, 1) := by decide +kernel
theorem d_M_ranks_107 : decode b_M_ranks 107 = .ok (.iload 5, 2) := by decide +kernel
theorem d_M_ranks_109 : decode b_M_ranks 109 = .ok (.iconst 1, 1) := by decide +kernel
theorem d_M_ranks_110 : decode b_M_ranks 110 = .ok (.iadd, 1) := by decide +kernel
theorem d_M_ranks_111 : decode b_M_ranks 111 = .ok (.i2d, 1) := by decide +kernel
theorem d_M_ranks_112 : decode b_M_ranks 112 = .ok (.invokevirtual 207, 3) := by decide +kernel
theorem d_M_ranks_115 : decode b_M_ranks 115 = .ok (.return_, 1) := by decide +kernel
theorem d_M_ranks_116 : decode b_M_ranks 116 = .ok (.aload_n 0, 1) := by decide +kernel
theorem d_M_ranks_117 : decode b_M_ranks 117 = .ok (.iload_n 2, 1) := by decide +kernel
theorem d_M_ranks_118 : decode b_M_ranks 118 = .ok (.invokevirtual 293, 3) := by decide +kernel
theorem d_M_ranks_121 : decode b_M_ranks 121 = .ok (.aload_n 0, 1) := by decide +kernel
theorem d_M_ranks_122 : decode b_M_ranks 122 = .ok (.iload_n 2, 1) := by decide +kernel
theorem d_M_ranks_123 : decode b_M_ranks 123 = .ok (.iconst 1, 1) := by decide +kernel
theorem d_M_ranks_124 : decode b_M_ranks 124 = .ok (.iadd, 1) := by decide +kernel
theorem d_M_ranks_125 : decode b_M_ranks 125 = .ok (.invokevirtual 296, 3) := by decide +kernel
theorem d_M_ranks_128 : decode b_M_ranks 128 = .ok (.lstore_n 3, 1) := by decide +kernel
theorem d_M_ranks_129 : decode b_M_ranks 129 = .ok (.aload_n 0, 1) := by decide +kernel
theorem d_M_ranks_130 : decode b_M_ranks 130 = .ok (.getfield 62, 3) := by decide +kernel
theorem d_M_ranks_133 : decode b_M_ranks 133 = .ok (.ifCond .le 4, 3) := by decide +kernel
theorem d_M_ranks_136 : decode b_M_ranks 136 = .ok (.return_, 1) := by decide +kernel
theorem d_M_ranks_137 : decode b_M_ranks 137 = .ok (.lload_n 3, 1) := by decide +kernel
theorem d_M_ranks_138 : decode b_M_ranks 138 = .ok (.lconst 1, 1) := by decide +kernel
theorem d_M_ranks_139 : decode b_M_ranks 139 = .ok (.lcmp, 1) := by decide +kernel
theorem d_M_ranks_140 : decode b_M_ranks 140 = .ok (.ifCond .lt 13, 3) := by decide +kernel
theorem d_M_ranks_143 : decode b_M_ranks 143 = .ok (.lload_n 3, 1) := by decide +kernel
theorem d_M_ranks_144 : decode b_M_ranks 144 = .ok (.aload_n 0, 1) := by decide +kernel
theorem d_M_ranks_145 : decode b_M_ranks 145 = .ok (.getfield 164, 3) := by decide +kernel
theorem d_M_ranks_148 : decode b_M_ranks 148 = .ok (.i2l, 1) := by decide +kernel
theorem d_M_ranks_149 : decode b_M_ranks 149 = .ok (.lcmp, 1) := by decide +kernel
theorem d_M_ranks_150 : decode b_M_ranks 150 = .ok (.ifCond .le 10, 3) := by decide +kernel
theorem d_M_ranks_153 : decode b_M_ranks 153 = .ok (.aload_n 0, 1) := by decide +kernel
theorem d_M_ranks_154 : decode b_M_ranks 154 = .ok (.bipush 6, 2) := by decide +kernel
theorem d_M_ranks_156 : decode b_M_ranks 156 = .ok (.invokevirtual 58, 3) := by decide +kernel
theorem d_M_ranks_159 : decode b_M_ranks 159 = .ok (.return_, 1) := by decide +kernel
theorem d_M_ranks_160 : decode b_M_ranks 160 = .ok (.aload_n 0, 1) := by decide +kernel
theorem d_M_ranks_161 : decode b_M_ranks 161 = .ok (.invokevirtual 288, 3) := by decide +kernel
theorem d_M_ranks_164 : decode b_M_ranks 164 = .ok (.aload_n 0, 1) := by decide +kernel
theorem d_M_ranks_165 : decode b_M_ranks 165 = .ok (.aload_n 0, 1) := by decide +kernel
theorem d_M_ranks_166 : decode b_M_ranks 166 = .ok (.getfield 37, 3) := by decide +kernel
theorem d_M_ranks_169 : decode b_M_ranks 169 = .ok (.iload_n 1, 1) := by decide +kernel
theorem d_M_ranks_170 : decode b_M_ranks 170 = .ok (.bipush 11, 2) := by decide +kernel
theorem d_M_ranks_172 : decode b_M_ranks 172 = .ok (.if_icmp .ne 10, 3) := by decide +kernel
theorem d_M_ranks_175 : decode b_M_ranks 175 = .ok (.lload_n 3, 1) := by decide +kernel
theorem d_M_ranks_176 : decode b_M_ranks 176 = .ok (.l2i, 1) := by decide +kernel
theorem d_M_ranks_177 : decode b_M_ranks 177 = .ok (.iconst 1, 1) := by decide +kernel
theorem d_M_ranks_178 : decode b_M_ranks 178 = .ok (.isub, 1) := by decide +kernel
theorem d_M_ranks_179 : decode b_M_ranks 179 = .ok (.goto 10, 3) := by decide +kernel
theorem d_M_ranks_182 : decode b_M_ranks 182 = .ok (.aload_n 0, 1) := by decide +kernel
theorem d_M_ranks_183 : decode b_M_ranks 183 = .ok (.getfield 164, 3) := by decide +kernel
theorem d_M_ranks_186 : decode b_M_ranks 186 = .ok (.lload_n 3, 1) := by decide +kernel
theorem d_M_ranks_187 : decode b_M_ranks 187 = .ok (.l2i, 1) := by decide +kernel
theorem d_M_ranks_188 : decode b_M_ranks 188 = .ok (.isub, 1) := by decide +kernel
theorem d_M_ranks_189 : decode b_M_ranks 189 = .ok (.daload, 1) := by decide +kernel
theorem d_M_ranks_190 : decode b_M_ranks 190 = .ok (.invokevirtual 207, 3) := by decide +kernel
theorem d_M_ranks_193 : decode b_M_ranks 193 = .ok (.return_, 1) := by decide +kernel
theorem p_M_ranks_b153 (d : Nat)  (v0 : Option Nat) (h : gk_H) : gk_P gw_V (d + 5) y_M_ranks b_M_ranks 8 none [] (f_M_ranks_b153  v0 h) 153 [(0, va_rf v0)] [] h := by
  unfold f_M_ranks_b153
  refine gk_aload_n (pc := 153) 0 d_M_ranks_153 rfl ?_
  refine gk_bipush (pc := 154) (6 : Int32) d_M_ranks_154 rfl ?_
  refine gk_callV (pc := 156) (d := (d + 4)) (w' := gv_V) (as := [.int (6 : Int32)]) (n := 1) 7 d_M_ranks_156 rfl rfl rfl rfl (Nat.le_of_ble_eq_true rfl) tw_1805 tw_1807 tw_21 tw_99 cw_M_fail hy_M_fail (Nat.le_of_ble_eq_true rfl) (p_M_fail (d + 4) v0 (6 : Int32) h) fun _ h1 => ?_
  exact gk_vret (pc := 159) rfl d_M_ranks_159 rfl
theorem p_M_ranks_b189 (d : Nat)  (s0 : Option Nat) (s1 : Option Nat) (s2 : Int32) (h : gk_H) : gk_P gw_V (d + 5) y_M_ranks b_M_ranks 8 none [] (f_M_ranks_b189  s0 s1 s2 h) 189 [] [.int s2, va_rf s1, va_rf s0] h := by
  unfold f_M_ranks_b189
  refine gk_dald (pc := 189) d_M_ranks_189 fun x1 => ?_
  refine gk_callV (pc := 190) (d := (d + 4)) (w' := gv_V) (as := [.double x1]) (n := 1) 7 d_M_ranks_190 rfl rfl rfl rfl (Nat.le_of_ble_eq_true rfl) tw_1916 tw_1918 tw_38 tw_99 cw_M_answerNumber hy_M_answerNumber (Nat.le_of_ble_eq_true rfl) (p_M_answerNumber (d + 3) s0 x1 h) fun _ h1 => ?_
  exact gk_vret (pc := 193) rfl d_M_ranks_193 rfl
theorem p_M_ranks_b106 (d : Nat)  (v0 : Option Nat) (v5 : Int32) (h : gk_H) : gk_P gw_V (d + 5) y_M_ranks b_M_ranks 8 none [] (f_M_ranks_b106  v0 v5 h) 106 [(0, va_rf v0), (5, .int v5)] [] h := by
  unfold f_M_ranks_b106
  refine gk_aload_n (pc := 106) 0 d_M_ranks_106 rfl ?_
  refine gk_iload (pc := 107) 1 d_M_ranks_107 rfl ?_
  refine gk_iconst (pc := 109) (1 : Int32) d_M_ranks_109 rfl ?_
  refine gk_iadd (pc := 110) d_M_ranks_110 ?_
  refine gk_i2d (pc := 111) d_M_ranks_111 ?_
  refine gk_callV (pc := 112) (d := (d + 4)) (w' := gv_V) (as := [.double (FP.i2d (v5 + (1 : Int32)))]) (n := 1) 7 d_M_ranks_112 rfl rfl rfl rfl (Nat.le_of_ble_eq_true rfl) tw_1916 tw_1918 tw_38 tw_99 cw_M_answerNumber hy_M_answerNumber (Nat.le_of_ble_eq_true rfl) (p_M_answerNumber (d + 3) v0 (FP.i2d (v5 + (1 : Int32))) h) fun _ h1 => ?_
  exact gk_vret (pc := 115) rfl d_M_ranks_115 rfl
theorem p_M_ranks_b87 (d : Nat) (b33 : Option Nat → UInt64 → Int32 → Int32 → Int32 → gk_H → Option (Unit × gk_H)) (q33 : ∀ (v0 : Option Nat) (v3 : UInt64) (v5 : Int32) (v6 : Int32) (v7 : Int32) (h : gk_H), gk_P gw_V (d + 5) y_M_ranks b_M_ranks 8 none [] (b33 v0 v3 v5 v6 v7 h) 33 [(0, va_rf v0), (3, .double v3), (5, .int v5), (6, .int v6), (7, .int v7)] [] h) (v0 : Option Nat) (v3 : UInt64) (v5 : Int32) (v7 : Int32) (s0 : Int32) (h : gk_H) : gk_P gw_V (d + 5) y_M_ranks b_M_ranks 8 none [] (f_M_ranks_b87 b33 v0 v3 v5 v7 s0 h) 87 [(0, va_rf v0), (3, .double v3), (5, .int v5), (7, .int v7)] [.int s0] h := by
  unfold f_M_ranks_b87
  refine gk_istore (pc := 87) (L' := [(6, .int s0), (0, va_rf v0), (3, .double v3), (5, .int v5), (7, .int v7)]) d_M_ranks_87 (Nat.le_of_ble_eq_true rfl) rfl ?_
  refine gk_iincN (pc := 89) 4 (1 : Int32) (L' := fun x1 => [(7, .int x1), (6, .int s0), (0, va_rf v0), (3, .double v3), (5, .int v5)]) d_M_ranks_89 rfl rfl (Nat.le_of_ble_eq_true rfl) (fun _ => rfl) fun x1 => ?_
  refine gk_goto (pc := 92) 33 d_M_ranks_92 rfl ?_
  refine gk_weak [2, 3, 4, 1, 0] (L' := [(0, va_rf v0), (3, .double v3), (5, .int v5), (6, .int s0), (7, .int x1)]) rfl ?_
  exact q33 v0 v3 v5 s0 x1 h
theorem p_M_ranks_b82 (d : Nat) (b33 : Option Nat → UInt64 → Int32 → Int32 → Int32 → gk_H → Option (Unit × gk_H)) (q33 : ∀ (v0 : Option Nat) (v3 : UInt64) (v5 : Int32) (v6 : Int32) (v7 : Int32) (h : gk_H), gk_P gw_V (d + 5) y_M_ranks b_M_ranks 8 none [] (b33 v0 v3 v5 v6 v7 h) 33 [(0, va_rf v0), (3, .double v3), (5, .int v5), (6, .int v6), (7, .int v7)] [] h) (v0 : Option Nat) (v3 : UInt64) (v5 : Int32) (v7 : Int32) (h : gk_H) : gk_P gw_V (d + 5) y_M_ranks b_M_ranks 8 none [] (f_M_ranks_b82 b33 v0 v3 v5 v7 h) 82 [(0, va_rf v0), (3, .double v3), (5, .int v5), (7, .int v7)] [] h := by
  unfold f_M_ranks_b82
  refine gk_iconst (pc := 82) (1 : Int32) d_M_ranks_82 rfl ?_
  refine gk_goto (pc := 83) 87 d_M_ranks_83 rfl ?_
  exact p_M_ranks_b87 d b33 q33 v0 v3 v5 v7 (1 : Int32) h
theorem p_M_ranks_b63 (d : Nat) (b33 : Option Nat → UInt64 → Int32 → Int32 → Int32 → gk_H → Option (Unit × gk_H)) (q33 : ∀ (v0 : Option Nat) (v3 : UInt64) (v5 : Int32) (v6 : Int32) (v7 : Int32) (h : gk_H), gk_P gw_V (d + 5) y_M_ranks b_M_ranks 8 none [] (b33 v0 v3 v5 v6 v7 h) 33 [(0, va_rf v0), (3, .double v3), (5, .int v5), (6, .int v6), (7, .int v7)] [] h) (v0 : Option Nat) (v3 : UInt64) (v6 : Int32) (v7 : Int32) (s0 : Int32) (h : gk_H) : gk_P gw_V (d + 5) y_M_ranks b_M_ranks 8 none [] (f_M_ranks_b63 b33 v0 v3 v6 v7 s0 h) 63 [(0, va_rf v0), (3, .double v3), (6, .int v6), (7, .int v7)] [.int s0] h := by
  unfold f_M_ranks_b63
  refine gk_istore (pc := 63) (L' := [(5, .int s0), (0, va_rf v0), (3, .double v3), (6, .int v6), (7, .int v7)]) d_M_ranks_63 (Nat.le_of_ble_eq_true rfl) rfl ?_
  refine gk_iload (pc := 65) 3 d_M_ranks_65 rfl ?_
  refine gk_if_ne (pc := 67) 82 d_M_ranks_67 rfl (fun _ => ?_) (fun _ => ?_)
  · refine gk_aload_n (pc := 70) 1 d_M_ranks_70 rfl ?_
    refine gk_getR (pc := 71) 7 13 d_M_ranks_71 rfl (Nat.le_of_ble_eq_true rfl) tw_1658 fun x1 => ?_
    refine gk_iload (pc := 74) 4 d_M_ranks_74 rfl ?_
    refine gk_dald (pc := 76) d_M_ranks_76 fun x2 => ?_
    refine gk_dload_n (pc := 77) 2 d_M_ranks_77 rfl ?_
    refine gk_dcmp (pc := 78) d_M_ranks_78 ?_
    refine gk_if_ne (pc := 79) 86 d_M_ranks_79 rfl (fun _ => ?_) (fun _ => ?_)
    · refine gk_weak [1, 2, 0, 4] (L' := [(0, va_rf v0), (3, .double v3), (5, .int s0), (7, .int v7)]) rfl ?_
      exact p_M_ranks_b82 d b33 q33 v0 v3 s0 v7 h
    · refine gk_iconst (pc := 86) (0 : Int32) d_M_ranks_86 rfl ?_
      refine gk_weak [1, 2, 0, 4] (L' := [(0, va_rf v0), (3, .double v3), (5, .int s0), (7, .int v7)]) rfl ?_
      exact p_M_ranks_b87 d b33 q33 v0 v3 s0 v7 (0 : Int32) h
  · refine gk_weak [1, 2, 0, 4] (L' := [(0, va_rf v0), (3, .double v3), (5, .int s0), (7, .int v7)]) rfl ?_
    exact p_M_ranks_b82 d b33 q33 v0 v3 s0 v7 h
theorem p_M_ranks_b33 (d : Nat)  : ∀ (fu : Nat) (v0 : Option Nat) (v3 : UInt64) (v5 : Int32) (v6 : Int32) (v7 : Int32) (h : gk_H), gk_P gw_V (d + 5) y_M_ranks b_M_ranks 8 none [] (f_M_ranks_b33  fu v0 v3 v5 v6 v7 h) 33 [(0, va_rf v0), (3, .double v3), (5, .int v5), (6, .int v6), (7, .int v7)] [] h := by
  intro fu
  induction fu with
  | zero => intros; exact gk_none
  | succ fu q33 =>
    intro v0 v3 v5 v6 v7 h
    rw [f_M_ranks_b33]
    refine gk_iload (pc := 33) 4 d_M_ranks_33 rfl ?_
    refine gk_aload_n (pc := 35) 0 d_M_ranks_35 rfl ?_
    refine gk_getI (pc := 36) 7 12 d_M_ranks_36 rfl (Nat.le_of_ble_eq_true rfl) tw_1657 fun x1 => ?_
    refine gk_icmp_ge (pc := 39) 95 d_M_ranks_39 rfl (fun _ => ?_) (fun _ => ?_)
    · refine gk_iload (pc := 95) 3 d_M_ranks_95 rfl ?_
      refine gk_if_ne (pc := 97) 106 d_M_ranks_97 rfl (fun _ => ?_) (fun _ => ?_)
      · refine gk_aload_n (pc := 100) 0 d_M_ranks_100 rfl ?_
        refine gk_bipush (pc := 101) (7 : Int32) d_M_ranks_101 rfl ?_
        refine gk_callV (pc := 103) (d := (d + 4)) (w' := gv_V) (as := [.int (7 : Int32)]) (n := 1) 7 d_M_ranks_103 rfl rfl rfl rfl (Nat.le_of_ble_eq_true rfl) tw_1805 tw_1807 tw_21 tw_99 cw_M_fail hy_M_fail (Nat.le_of_ble_eq_true rfl) (p_M_fail (d + 4) v0 (7 : Int32) h) fun _ h1 => ?_
        refine gk_weak [0, 2] (L' := [(0, va_rf v0), (5, .int v5)]) rfl ?_
        exact p_M_ranks_b106 d v0 v5 h1
      · refine gk_weak [0, 2] (L' := [(0, va_rf v0), (5, .int v5)]) rfl ?_
        exact p_M_ranks_b106 d v0 v5 h
    · refine gk_aload_n (pc := 42) 0 d_M_ranks_42 rfl ?_
      refine gk_getR (pc := 43) 7 13 d_M_ranks_43 rfl (Nat.le_of_ble_eq_true rfl) tw_1658 fun x2 => ?_
      refine gk_iload (pc := 46) 4 d_M_ranks_46 rfl ?_
      refine gk_dald (pc := 48) d_M_ranks_48 fun x3 => ?_
      refine gk_dload_n (pc := 49) 1 d_M_ranks_49 rfl ?_
      refine gk_dcmp (pc := 50) d_M_ranks_50 ?_
      refine gk_if_le (pc := 51) 61 d_M_ranks_51 rfl (fun _ => ?_) (fun _ => ?_)
      · refine gk_iload (pc := 61) 2 d_M_ranks_61 rfl ?_
        refine gk_weak [0, 1, 3, 4] (L' := [(0, va_rf v0), (3, .double v3), (6, .int v6), (7, .int v7)]) rfl ?_
        exact p_M_ranks_b63 d (f_M_ranks_b33 fu) q33 v0 v3 v6 v7 v5 h
      · refine gk_iload (pc := 54) 2 d_M_ranks_54 rfl ?_
        refine gk_iconst (pc := 56) (1 : Int32) d_M_ranks_56 rfl ?_
        refine gk_iadd (pc := 57) d_M_ranks_57 ?_
        refine gk_goto (pc := 58) 63 d_M_ranks_58 rfl ?_
        refine gk_weak [0, 1, 3, 4] (L' := [(0, va_rf v0), (3, .double v3), (6, .int v6), (7, .int v7)]) rfl ?_
        exact p_M_ranks_b63 d (f_M_ranks_b33 fu) q33 v0 v3 v6 v7 (v5 + (1 : Int32)) h
theorem w_M_ranks (d : Nat) (a0 : Option Nat) (a1 : Int32) (a2 : Int32) (h : gk_H) : gk_P gw_V (d + 5) y_M_ranks b_M_ranks 8 none [] (f_M_ranks a0 a1 a2 h) 0 [(0, va_rf a0), (1, .int a1), (2, .int a2)] [] h := by
  unfold f_M_ranks
  refine gk_aload_n (pc := 0) 0 d_M_ranks_0 rfl ?_
  refine gk_iconst (pc := 1) (0 : Int32) d_M_ranks_1 rfl ?_
  refine gk_putfield (pc := 2) 7 12 d_M_ranks_2 rfl (Nat.le_of_ble_eq_true rfl) tw_1657 (Or.inl rfl) fun h1 => ?_
  refine gk_iload_n (pc := 5) 1 d_M_ranks_5 rfl ?_
  refine gk_bipush (pc := 6) (12 : Int32) d_M_ranks_6 rfl ?_
  refine gk_icmp_ne (pc := 8) 116 d_M_ranks_8 rfl (fun _ => ?_) (fun _ => ?_)
  · refine gk_aload_n (pc := 11) 0 d_M_ranks_11 rfl ?_
    refine gk_iload_n (pc := 12) 2 d_M_ranks_12 rfl ?_
    refine gk_callV (pc := 13) (d := (d + 4)) (w' := gv_D) (as := [.int a2]) (n := 1) 7 d_M_ranks_13 rfl rfl rfl rfl (Nat.le_of_ble_eq_true rfl) tw_1868 tw_1870 tw_31 tw_99 cw_M_wantNumber hy_M_wantNumber (Nat.le_of_ble_eq_true rfl) (p_M_wantNumber (d + 1) a0 a2 h1) fun x1 h2 => ?_
    refine gk_dstore_n (pc := 16) (L' := [(3, .double x1), (0, va_rf a0), (1, .int a1), (2, .int a2)]) d_M_ranks_16 (Nat.le_of_ble_eq_true rfl) rfl ?_
    refine gk_aload_n (pc := 17) 1 d_M_ranks_17 rfl ?_
    refine gk_iload_n (pc := 18) 3 d_M_ranks_18 rfl ?_
    refine gk_iconst (pc := 19) (1 : Int32) d_M_ranks_19 rfl ?_
    refine gk_iadd (pc := 20) d_M_ranks_20 ?_
    refine gk_callV (pc := 21) (d := (d + 4)) (w' := gv_V) (as := [.int (a2 + (1 : Int32))]) (n := 1) 7 d_M_ranks_21 rfl rfl rfl rfl (Nat.le_of_ble_eq_true rfl) tw_1946 tw_1948 tw_43 tw_99 cw_M_wantCells hy_M_wantCells (Nat.le_of_ble_eq_true rfl) (p_M_wantCells (d + 3) a0 (a2 + (1 : Int32)) h2) fun _ h3 => ?_
    refine gk_iconst (pc := 24) (0 : Int32) d_M_ranks_24 rfl ?_
    refine gk_istore (pc := 25) (L' := [(5, .int (0 : Int32)), (3, .double x1), (0, va_rf a0), (1, .int a1), (2, .int a2)]) d_M_ranks_25 (Nat.le_of_ble_eq_true rfl) rfl ?_
    refine gk_iconst (pc := 27) (0 : Int32) d_M_ranks_27 rfl ?_
    refine gk_istore (pc := 28) (L' := [(6, .int (0 : Int32)), (5, .int (0 : Int32)), (3, .double x1), (0, va_rf a0), (1, .int a1), (2, .int a2)]) d_M_ranks_28 (Nat.le_of_ble_eq_true rfl) rfl ?_
    refine gk_iconst (pc := 30) (0 : Int32) d_M_ranks_30 rfl ?_
    refine gk_istore (pc := 31) (L' := [(7, .int (0 : Int32)), (6, .int (0 : Int32)), (5, .int (0 : Int32)), (3, .double x1), (0, va_rf a0), (1, .int a1), (2, .int a2)]) d_M_ranks_31 (Nat.le_of_ble_eq_true rfl) rfl ?_
    refine gk_weak [4, 3, 2, 1, 0] (L' := [(0, va_rf a0), (3, .double x1), (5, .int (0 : Int32)), (6, .int (0 : Int32)), (7, .int (0 : Int32))]) rfl ?_
    exact p_M_ranks_b33 d gk_F a0 x1 (0 : Int32) (0 : Int32) (0 : Int32) h3
  · refine gk_aload_n (pc := 116) 0 d_M_ranks_116 rfl ?_
    refine gk_iload_n (pc := 117) 2 d_M_ranks_117 rfl ?_
    refine gk_callV (pc := 118) (d := (d + 4)) (w' := gv_V) (as := [.int a2]) (n := 1) 7 d_M_ranks_118 rfl rfl rfl rfl (Nat.le_of_ble_eq_true rfl) tw_1946 tw_1948 tw_43 tw_99 cw_M_wantCells hy_M_wantCells (Nat.le_of_ble_eq_true rfl) (p_M_wantCells (d + 3) a0 a2 h1) fun _ h4 => ?_
    refine gk_aload_n (pc := 121) 0 d_M_ranks_121 rfl ?_
    refine gk_iload_n (pc := 122) 2 d_M_ranks_122 rfl ?_
    refine gk_iconst (pc := 123) (1 : Int32) d_M_ranks_123 rfl ?_
    refine gk_iadd (pc := 124) d_M_ranks_124 ?_
    refine gk_callV (pc := 125) (d := (d + 4)) (w' := gv_J) (as := [.int (a2 + (1 : Int32))]) (n := 1) 7 d_M_ranks_125 rfl rfl rfl rfl (Nat.le_of_ble_eq_true rfl) tw_1954 tw_1956 tw_45 tw_99 cw_M_wantWhole hy_M_wantWhole (Nat.le_of_ble_eq_true rfl) (p_M_wantWhole d a0 (a2 + (1 : Int32)) h4) fun x2 h5 => ?_
    refine gk_lstore_n (pc := 128) (L' := [(3, .long x2), (0, va_rf a0), (1, .int a1), (2, .int a2)]) d_M_ranks_128 (Nat.le_of_ble_eq_true rfl) rfl ?_
    refine gk_aload_n (pc := 129) 1 d_M_ranks_129 rfl ?_
    refine gk_getI (pc := 130) 7 11 d_M_ranks_130 rfl (Nat.le_of_ble_eq_true rfl) tw_1656 fun x3 => ?_
    refine gk_if_le (pc := 133) 137 d_M_ranks_133 rfl (fun _ => ?_) (fun _ => ?_)
    · refine gk_lload_n (pc := 137) 0 d_M_ranks_137 rfl ?_
      refine gk_lconst (pc := 138) (1 : Int64) d_M_ranks_138 rfl ?_
      refine gk_lcmp (pc := 139) d_M_ranks_139 ?_
      refine gk_if_lt (pc := 140) 153 d_M_ranks_140 rfl (fun _ => ?_) (fun _ => ?_)
      · refine gk_weak [1] (L' := [(0, va_rf a0)]) rfl ?_
        exact p_M_ranks_b153 d a0 h5
      · refine gk_lload_n (pc := 143) 0 d_M_ranks_143 rfl ?_
        refine gk_aload_n (pc := 144) 1 d_M_ranks_144 rfl ?_
        refine gk_getI (pc := 145) 7 12 d_M_ranks_145 rfl (Nat.le_of_ble_eq_true rfl) tw_1657 fun x4 => ?_
        refine gk_i2l (pc := 148) d_M_ranks_148 ?_
        refine gk_lcmp (pc := 149) d_M_ranks_149 ?_
        refine gk_if_le (pc := 150) 160 d_M_ranks_150 rfl (fun _ => ?_) (fun _ => ?_)
        · refine gk_aload_n (pc := 160) 1 d_M_ranks_160 rfl ?_
          refine gk_callV (pc := 161) (d := (d + 4)) (w' := gv_V) (as := []) (n := 0) 7 d_M_ranks_161 rfl rfl rfl rfl (Nat.le_of_ble_eq_true rfl) tw_1958 tw_1960 tw_46 tw_99 cw_M_sort hy_M_sort (Nat.le_of_ble_eq_true rfl) (p_M_sort (d + 4) a0 h5) fun _ h6 => ?_
          refine gk_aload_n (pc := 164) 1 d_M_ranks_164 rfl ?_
          refine gk_aload_n (pc := 165) 1 d_M_ranks_165 rfl ?_
          refine gk_getR (pc := 166) 7 13 d_M_ranks_166 rfl (Nat.le_of_ble_eq_true rfl) tw_1658 fun x5 => ?_
          refine gk_iload_n (pc := 169) 2 d_M_ranks_169 rfl ?_
          refine gk_bipush (pc := 170) (11 : Int32) d_M_ranks_170 rfl ?_
          refine gk_icmp_ne (pc := 172) 182 d_M_ranks_172 rfl (fun _ => ?_) (fun _ => ?_)
          · refine gk_lload_n (pc := 175) 0 d_M_ranks_175 rfl ?_
            refine gk_l2i (pc := 176) d_M_ranks_176 ?_
            refine gk_iconst (pc := 177) (1 : Int32) d_M_ranks_177 rfl ?_
            refine gk_isub (pc := 178) d_M_ranks_178 ?_
            refine gk_goto (pc := 179) 189 d_M_ranks_179 rfl ?_
            refine gk_weak [] (L' := []) rfl ?_
            exact p_M_ranks_b189 d a0 x5 ((Int64.toInt32 x2) - (1 : Int32)) h6
          · refine gk_aload_n (pc := 182) 1 d_M_ranks_182 rfl ?_
            refine gk_getI (pc := 183) 7 12 d_M_ranks_183 rfl (Nat.le_of_ble_eq_true rfl) tw_1657 fun x6 => ?_
            refine gk_lload_n (pc := 186) 0 d_M_ranks_186 rfl ?_
            refine gk_l2i (pc := 187) d_M_ranks_187 ?_
            refine gk_isub (pc := 188) d_M_ranks_188 ?_
            refine gk_weak [] (L' := []) rfl ?_
            exact p_M_ranks_b189 d a0 x5 (x6 - (Int64.toInt32 x2)) h6
        · refine gk_weak [1] (L' := [(0, va_rf a0)]) rfl ?_
          exact p_M_ranks_b153 d a0 h5
    · exact gk_vret (pc := 136) rfl d_M_ranks_136 rfl
theorem p_M_ranks (d : Nat) (a0 : Option Nat) (a1 : Int32) (a2 : Int32) (h : gk_H) : ∀ r h1, f_M_ranks a0 a1 a2 h = some (r, h1) → gk_M (d + 5) y_M_ranks b_M_ranks 8 none [va_rf a0, .int a1, .int a2] h (.inl (gv_V r)) h1 :=
  fun r h1 e => gk_M_of2 (by decide +kernel) (by simp [lv_args, gk_cat_rf, gk_catI, gk_catJ, gk_catD, gv_V, gv_I, gv_J, gv_D, gv_R]) (by simp [lg_sl, gk_cat_rf, gk_catI, gk_catJ, gk_catD, gv_V, gv_I, gv_J, gv_D, gv_R]) (w_M_ranks d a0 a1 a2 h r h1 e)
theorem d_M_wantRow_0 : decode b_M_wantRow 0 = .ok (.aload_n 0, 1) := by decide +kernel
theorem d_M_wantRow_1 : decode b_M_wantRow 1 = .ok (.getfield 62, 3) := by decide +kernel
theorem d_M_wantRow_4 : decode b_M_wantRow 4 = .ok (.ifCond .le 4, 3) := by decide +kernel
theorem d_M_wantRow_7 : decode b_M_wantRow 7 = .ok (.return_, 1) := by decide +kernel
theorem d_M_wantRow_8 : decode b_M_wantRow 8 = .ok (.aload_n 0, 1) := by decide +kernel
theorem d_M_wantRow_9 : decode b_M_wantRow 9 = .ok (.getfield 13, 3) := by decide +kernel
theorem d_M_wantRow_12 : decode b_M_wantRow 12 = .ok (.iload_n 1, 1) := by decide +kernel
theorem d_M_wantRow_13 : decode b_M_wantRow 13 = .ok (.iaload, 1) := by decide +kernel
theorem d_M_wantRow_14 : decode b_M_wantRow 14 = .ok (.iconst 5, 1) := by decide +kernel
theorem d_M_wantRow_15 : decode b_M_wantRow 15 = .ok (.if_icmp .ge 22, 3) := by decide +kernel
theorem d_M_wantRow_18 : decode b_M_wantRow 18 = .ok (.aload_n 0, 1) := by decide +kernel
theorem d_M_wantRow_19 : decode b_M_wantRow 19 = .ok (.iload_n 1, 1) := by decide +kernel
theorem d_M_wantRow_20 : decode b_M_wantRow 20 = .ok (.invokevirtual 137, 3) := by decide +kernel
theorem d_M_wantRow_23 : decode b_M_wantRow 23 = .ok (.dstore_n 2, 1) := by decide +kernel
theorem d_M_wantRow_24 : decode b_M_wantRow 24 = .ok (.aload_n 0, 1) := by decide +kernel
theorem d_M_wantRow_25 : decode b_M_wantRow 25 = .ok (.getfield 62, 3) := by decide +kernel
theorem d_M_wantRow_28 : decode b_M_wantRow 28 = .ok (.ifCond .ne 8, 3) := by decide +kernel
theorem d_M_wantRow_31 : decode b_M_wantRow 31 = .ok (.aload_n 0, 1) := by decide +kernel
theorem d_M_wantRow_32 : decode b_M_wantRow 32 = .ok (.dload_n 2, 1) := by decide +kernel
theorem d_M_wantRow_33 : decode b_M_wantRow 33 = .ok (.invokevirtual 167, 3) := by decide +kernel
theorem d_M_wantRow_36 : decode b_M_wantRow 36 = .ok (.return_, 1) := by decide +kernel
theorem d_M_wantRow_37 : decode b_M_wantRow 37 = .ok (.iconst 0, 1) := by decide +kernel
theorem d_M_wantRow_38 : decode b_M_wantRow 38 = .ok (.istore_n 2, 1) := by decide +kernel
theorem d_M_wantRow_39 : decode b_M_wantRow 39 = .ok (.iload_n 2, 1) := by decide +kernel
theorem d_M_wantRow_40 : decode b_M_wantRow 40 = .ok (.aload_n 0, 1) := by decide +kernel
theorem d_M_wantRow_41 : decode b_M_wantRow 41 = .ok (.getfield 17, 3) := by decide +kernel
theorem d_M_wantRow_44 : decode b_M_wantRow 44 = .ok (.iload_n 1, 1) := by decide +kernel
theorem d_M_wantRow_45 : decode b_M_wantRow 45 = .ok (.iaload, 1) := by decide +kernel
theorem d_M_wantRow_46 : decode b_M_wantRow 46 = .ok (.aload_n 0, 1) := by decide +kernel
theorem d_M_wantRow_47 : decode b_M_wantRow 47 = .ok (.getfield 20, 3) := by decide +kernel
theorem d_M_wantRow_50 : decode b_M_wantRow 50 = .ok (.iload_n 1, 1) := by decide +kernel
theorem d_M_wantRow_51 : decode b_M_wantRow 51 = .ok (.iaload, 1) := by decide +kernel
theorem d_M_wantRow_52 : decode b_M_wantRow 52 = .ok (.imul, 1) := by decide +kernel
theorem d_M_wantRow_53 : decode b_M_wantRow 53 = .ok (.if_icmp .ge 64, 3) := by decide +kernel
theorem d_M_wantRow_56 : decode b_M_wantRow 56 = .ok (.aload_n 0, 1) := by decide +kernel
theorem d_M_wantRow_57 : decode b_M_wantRow 57 = .ok (.getfield 62, 3) := by decide +kernel
theorem d_M_wantRow_60 : decode b_M_wantRow 60 = .ok (.ifCond .ne 57, 3) := by decide +kernel
theorem d_M_wantRow_63 : decode b_M_wantRow 63 = .ok (.bipush 16, 2) := by decide +kernel
theorem d_M_wantRow_65 : decode b_M_wantRow 65 = .ok (.iload_n 1, 1) := by decide +kernel
theorem d_M_wantRow_66 : decode b_M_wantRow 66 = .ok (.imul, 1) := by decide +kernel
theorem d_M_wantRow_67 : decode b_M_wantRow 67 = .ok (.iload_n 2, 1) := by decide +kernel
theorem d_M_wantRow_68 : decode b_M_wantRow 68 = .ok (.iadd, 1) := by decide +kernel
theorem d_M_wantRow_69 : decode b_M_wantRow 69 = .ok (.istore_n 3, 1) := by decide +kernel
theorem d_M_wantRow_70 : decode b_M_wantRow 70 = .ok (.aload_n 0, 1) := by decide +kernel
theorem d_M_wantRow_71 : decode b_M_wantRow 71 = .ok (.getfield 23, 3) := by decide +kernel
theorem d_M_wantRow_74 : decode b_M_wantRow 74 = .ok (.iload_n 3, 1) := by decide +kernel
theorem d_M_wantRow_75 : decode b_M_wantRow 75 = .ok (.iaload, 1) := by decide +kernel
theorem d_M_wantRow_76 : decode b_M_wantRow 76 = .ok (.iconst 4, 1) := by decide +kernel
theorem d_M_wantRow_77 : decode b_M_wantRow 77 = .ok (.if_icmp .ne 14, 3) := by decide +kernel
theorem d_M_wantRow_80 : decode b_M_wantRow 80 = .ok (.aload_n 0, 1) := by decide +kernel
theorem d_M_wantRow_81 : decode b_M_wantRow 81 = .ok (.aload_n 0, 1) := by decide +kernel
theorem d_M_wantRow_82 : decode b_M_wantRow 82 = .ok (.getfield 26, 3) := by decide +kernel
theorem d_M_wantRow_85 : decode b_M_wantRow 85 = .ok (.iload_n 3, 1) := by decide +kernel
theorem d_M_wantRow_86 : decode b_M_wantRow 86 = .ok (.daload, 1) := by decide +kernel
theorem d_M_wantRow_87 : decode b_M_wantRow 87 = .ok (.d2i, 1) := by decide +kernel
theorem d_M_wantRow_88 : decode b_M_wantRow 88 = .ok (.invokevirtual 58, 3) := by decide +kernel
theorem d_M_wantRow_91 : decode b_M_wantRow 91 = .ok (.aload_n 0, 1) := by decide +kernel
theorem d_M_wantRow_92 : decode b_M_wantRow 92 = .ok (.getfield 23, 3) := by decide +kernel
theorem d_M_wantRow_95 : decode b_M_wantRow 95 = .ok (.iload_n 3, 1) := by decide +kernel
theorem d_M_wantRow_96 : decode b_M_wantRow 96 = .ok (.iaload, 1) := by decide +kernel
theorem d_M_wantRow_97 : decode b_M_wantRow 97 = .ok (.iconst 1, 1) := by decide +kernel
theorem d_M_wantRow_98 : decode b_M_wantRow 98 = .ok (.if_icmp .ne 13, 3) := by decide +kernel
theorem d_M_wantRow_101 : decode b_M_wantRow 101 = .ok (.aload_n 0, 1) := by decide +kernel
theorem d_M_wantRow_102 : decode b_M_wantRow 102 = .ok (.aload_n 0, 1) := by decide +kernel
theorem d_M_wantRow_103 : decode b_M_wantRow 103 = .ok (.getfield 26, 3) := by decide +kernel
theorem d_M_wantRow_106 : decode b_M_wantRow 106 = .ok (.iload_n 3, 1) := by decide +kernel
theorem d_M_wantRow_107 : decode b_M_wantRow 107 = .ok (.daload, 1) := by decide +kernel
theorem d_M_wantRow_108 : decode b_M_wantRow 108 = .ok (.invokevirtual 167, 3) := by decide +kernel
theorem d_M_wantRow_111 : decode b_M_wantRow 111 = .ok (.iinc 2 1, 3) := by decide +kernel
theorem d_M_wantRow_114 : decode b_M_wantRow 114 = .ok (.goto (-75), 3) := by decide +kernel
theorem d_M_wantRow_117 : decode b_M_wantRow 117 = .ok (.return_, 1) := by decide +kernel
theorem p_M_wantRow_b117 (d : Nat)   (h : gk_H) : gk_P gw_V (d + 4) y_M_wantRow b_M_wantRow 4 none [] (f_M_wantRow_b117   h) 117 [] [] h := by
  unfold f_M_wantRow_b117
  exact gk_vret (pc := 117) rfl d_M_wantRow_117 rfl
theorem p_M_wantRow_b111 (d : Nat) (b39 : Option Nat → Int32 → Int32 → gk_H → Option (Unit × gk_H)) (q39 : ∀ (v0 : Option Nat) (v1 : Int32) (v2 : Int32) (h : gk_H), gk_P gw_V (d + 4) y_M_wantRow b_M_wantRow 4 none [] (b39 v0 v1 v2 h) 39 [(0, va_rf v0), (1, .int v1), (2, .int v2)] [] h) (v0 : Option Nat) (v1 : Int32) (v2 : Int32) (h : gk_H) : gk_P gw_V (d + 4) y_M_wantRow b_M_wantRow 4 none [] (f_M_wantRow_b111 b39 v0 v1 v2 h) 111 [(0, va_rf v0), (1, .int v1), (2, .int v2)] [] h := by
  unfold f_M_wantRow_b111
  refine gk_iincN (pc := 111) 2 (1 : Int32) (L' := fun x1 => [(2, .int x1), (0, va_rf v0), (1, .int v1)]) d_M_wantRow_111 rfl rfl (Nat.le_of_ble_eq_true rfl) (fun _ => rfl) fun x1 => ?_
  refine gk_goto (pc := 114) 39 d_M_wantRow_114 rfl ?_
  refine gk_weak [1, 2, 0] (L' := [(0, va_rf v0), (1, .int v1), (2, .int x1)]) rfl ?_
  exact q39 v0 v1 x1 h
theorem p_M_wantRow_b91 (d : Nat) (b39 : Option Nat → Int32 → Int32 → gk_H → Option (Unit × gk_H)) (q39 : ∀ (v0 : Option Nat) (v1 : Int32) (v2 : Int32) (h : gk_H), gk_P gw_V (d + 4) y_M_wantRow b_M_wantRow 4 none [] (b39 v0 v1 v2 h) 39 [(0, va_rf v0), (1, .int v1), (2, .int v2)] [] h) (v0 : Option Nat) (v1 : Int32) (v2 : Int32) (v3 : Int32) (h : gk_H) : gk_P gw_V (d + 4) y_M_wantRow b_M_wantRow 4 none [] (f_M_wantRow_b91 b39 v0 v1 v2 v3 h) 91 [(0, va_rf v0), (1, .int v1), (2, .int v2), (3, .int v3)] [] h := by
  unfold f_M_wantRow_b91
  refine gk_aload_n (pc := 91) 0 d_M_wantRow_91 rfl ?_
  refine gk_getR (pc := 92) 7 7 d_M_wantRow_92 rfl (Nat.le_of_ble_eq_true rfl) tw_1652 fun x1 => ?_
  refine gk_iload_n (pc := 95) 3 d_M_wantRow_95 rfl ?_
  refine gk_iald (pc := 96) d_M_wantRow_96 fun x2 => ?_
  refine gk_iconst (pc := 97) (1 : Int32) d_M_wantRow_97 rfl ?_
  refine gk_icmp_ne (pc := 98) 111 d_M_wantRow_98 rfl (fun _ => ?_) (fun _ => ?_)
  · refine gk_aload_n (pc := 101) 0 d_M_wantRow_101 rfl ?_
    refine gk_aload_n (pc := 102) 0 d_M_wantRow_102 rfl ?_
    refine gk_getR (pc := 103) 7 8 d_M_wantRow_103 rfl (Nat.le_of_ble_eq_true rfl) tw_1653 fun x3 => ?_
    refine gk_iload_n (pc := 106) 3 d_M_wantRow_106 rfl ?_
    refine gk_dald (pc := 107) d_M_wantRow_107 fun x4 => ?_
    refine gk_callV (pc := 108) (d := (d + 3)) (w' := gv_V) (as := [.double x4]) (n := 1) 7 d_M_wantRow_108 rfl rfl rfl rfl (Nat.le_of_ble_eq_true rfl) tw_1950 tw_1952 tw_44 tw_99 cw_M_gather hy_M_gather (Nat.le_of_ble_eq_true rfl) (p_M_gather (d + 3) v0 x4 h) fun _ h1 => ?_
    refine gk_weak [0, 1, 2] (L' := [(0, va_rf v0), (1, .int v1), (2, .int v2)]) rfl ?_
    exact p_M_wantRow_b111 d b39 q39 v0 v1 v2 h1
  · refine gk_weak [0, 1, 2] (L' := [(0, va_rf v0), (1, .int v1), (2, .int v2)]) rfl ?_
    exact p_M_wantRow_b111 d b39 q39 v0 v1 v2 h
theorem p_M_wantRow_b39 (d : Nat)  : ∀ (fu : Nat) (v0 : Option Nat) (v1 : Int32) (v2 : Int32) (h : gk_H), gk_P gw_V (d + 4) y_M_wantRow b_M_wantRow 4 none [] (f_M_wantRow_b39  fu v0 v1 v2 h) 39 [(0, va_rf v0), (1, .int v1), (2, .int v2)] [] h := by
  intro fu
  induction fu with
  | zero => intros; exact gk_none
  | succ fu q39 =>
    intro v0 v1 v2 h
    rw [f_M_wantRow_b39]
    refine gk_iload_n (pc := 39) 2 d_M_wantRow_39 rfl ?_
    refine gk_aload_n (pc := 40) 0 d_M_wantRow_40 rfl ?_
    refine gk_getR (pc := 41) 7 5 d_M_wantRow_41 rfl (Nat.le_of_ble_eq_true rfl) tw_1650 fun x1 => ?_
    refine gk_iload_n (pc := 44) 1 d_M_wantRow_44 rfl ?_
    refine gk_iald (pc := 45) d_M_wantRow_45 fun x2 => ?_
    refine gk_aload_n (pc := 46) 0 d_M_wantRow_46 rfl ?_
    refine gk_getR (pc := 47) 7 6 d_M_wantRow_47 rfl (Nat.le_of_ble_eq_true rfl) tw_1651 fun x3 => ?_
    refine gk_iload_n (pc := 50) 1 d_M_wantRow_50 rfl ?_
    refine gk_iald (pc := 51) d_M_wantRow_51 fun x4 => ?_
    refine gk_imul (pc := 52) d_M_wantRow_52 ?_
    refine gk_icmp_ge (pc := 53) 117 d_M_wantRow_53 rfl (fun _ => ?_) (fun _ => ?_)
    · refine gk_weak [] (L' := []) rfl ?_
      exact p_M_wantRow_b117 d h
    · refine gk_aload_n (pc := 56) 0 d_M_wantRow_56 rfl ?_
      refine gk_getI (pc := 57) 7 11 d_M_wantRow_57 rfl (Nat.le_of_ble_eq_true rfl) tw_1656 fun x5 => ?_
      refine gk_if_ne (pc := 60) 117 d_M_wantRow_60 rfl (fun _ => ?_) (fun _ => ?_)
      · refine gk_bipush (pc := 63) (16 : Int32) d_M_wantRow_63 rfl ?_
        refine gk_iload_n (pc := 65) 1 d_M_wantRow_65 rfl ?_
        refine gk_imul (pc := 66) d_M_wantRow_66 ?_
        refine gk_iload_n (pc := 67) 2 d_M_wantRow_67 rfl ?_
        refine gk_iadd (pc := 68) d_M_wantRow_68 ?_
        refine gk_topI (pc := 69) fun x6 => ?_
        refine gk_istore_n (pc := 69) (L' := [(3, .int x6), (0, va_rf v0), (1, .int v1), (2, .int v2)]) d_M_wantRow_69 (Nat.le_of_ble_eq_true rfl) rfl ?_
        refine gk_aload_n (pc := 70) 1 d_M_wantRow_70 rfl ?_
        refine gk_getR (pc := 71) 7 7 d_M_wantRow_71 rfl (Nat.le_of_ble_eq_true rfl) tw_1652 fun x7 => ?_
        refine gk_iload_n (pc := 74) 0 d_M_wantRow_74 rfl ?_
        refine gk_iald (pc := 75) d_M_wantRow_75 fun x8 => ?_
        refine gk_iconst (pc := 76) (4 : Int32) d_M_wantRow_76 rfl ?_
        refine gk_icmp_ne (pc := 77) 91 d_M_wantRow_77 rfl (fun _ => ?_) (fun _ => ?_)
        · refine gk_aload_n (pc := 80) 1 d_M_wantRow_80 rfl ?_
          refine gk_aload_n (pc := 81) 1 d_M_wantRow_81 rfl ?_
          refine gk_getR (pc := 82) 7 8 d_M_wantRow_82 rfl (Nat.le_of_ble_eq_true rfl) tw_1653 fun x9 => ?_
          refine gk_iload_n (pc := 85) 0 d_M_wantRow_85 rfl ?_
          refine gk_dald (pc := 86) d_M_wantRow_86 fun x10 => ?_
          refine gk_d2i (pc := 87) d_M_wantRow_87 ?_
          refine gk_callV (pc := 88) (d := (d + 3)) (w' := gv_V) (as := [.int (FP.d2i x10)]) (n := 1) 7 d_M_wantRow_88 rfl rfl rfl rfl (Nat.le_of_ble_eq_true rfl) tw_1805 tw_1807 tw_21 tw_99 cw_M_fail hy_M_fail (Nat.le_of_ble_eq_true rfl) (p_M_fail (d + 3) v0 (FP.d2i x10) h) fun _ h1 => ?_
          refine gk_weak [1, 2, 3, 0] (L' := [(0, va_rf v0), (1, .int v1), (2, .int v2), (3, .int x6)]) rfl ?_
          exact p_M_wantRow_b91 d (f_M_wantRow_b39 fu) q39 v0 v1 v2 x6 h1
        · refine gk_weak [1, 2, 3, 0] (L' := [(0, va_rf v0), (1, .int v1), (2, .int v2), (3, .int x6)]) rfl ?_
          exact p_M_wantRow_b91 d (f_M_wantRow_b39 fu) q39 v0 v1 v2 x6 h
      · refine gk_weak [] (L' := []) rfl ?_
        exact p_M_wantRow_b117 d h
theorem p_M_wantRow_b36 (d : Nat)   (h : gk_H) : gk_P gw_V (d + 4) y_M_wantRow b_M_wantRow 4 none [] (f_M_wantRow_b36   h) 36 [] [] h := by
  unfold f_M_wantRow_b36
  exact gk_vret (pc := 36) rfl d_M_wantRow_36 rfl
theorem w_M_wantRow (d : Nat) (a0 : Option Nat) (a1 : Int32) (h : gk_H) : gk_P gw_V (d + 4) y_M_wantRow b_M_wantRow 4 none [] (f_M_wantRow a0 a1 h) 0 [(0, va_rf a0), (1, .int a1)] [] h := by
  unfold f_M_wantRow
  refine gk_aload_n (pc := 0) 0 d_M_wantRow_0 rfl ?_
  refine gk_getI (pc := 1) 7 11 d_M_wantRow_1 rfl (Nat.le_of_ble_eq_true rfl) tw_1656 fun x1 => ?_
  refine gk_if_le (pc := 4) 8 d_M_wantRow_4 rfl (fun _ => ?_) (fun _ => ?_)
  · refine gk_aload_n (pc := 8) 0 d_M_wantRow_8 rfl ?_
    refine gk_getR (pc := 9) 7 4 d_M_wantRow_9 rfl (Nat.le_of_ble_eq_true rfl) tw_1649 fun x2 => ?_
    refine gk_iload_n (pc := 12) 1 d_M_wantRow_12 rfl ?_
    refine gk_iald (pc := 13) d_M_wantRow_13 fun x3 => ?_
    refine gk_iconst (pc := 14) (5 : Int32) d_M_wantRow_14 rfl ?_
    refine gk_icmp_ge (pc := 15) 37 d_M_wantRow_15 rfl (fun _ => ?_) (fun _ => ?_)
    · refine gk_iconst (pc := 37) (0 : Int32) d_M_wantRow_37 rfl ?_
      refine gk_istore_n (pc := 38) (L' := [(2, .int (0 : Int32)), (0, va_rf a0), (1, .int a1)]) d_M_wantRow_38 (Nat.le_of_ble_eq_true rfl) rfl ?_
      refine gk_weak [1, 2, 0] (L' := [(0, va_rf a0), (1, .int a1), (2, .int (0 : Int32))]) rfl ?_
      exact p_M_wantRow_b39 d gk_F a0 a1 (0 : Int32) h
    · refine gk_aload_n (pc := 18) 0 d_M_wantRow_18 rfl ?_
      refine gk_iload_n (pc := 19) 1 d_M_wantRow_19 rfl ?_
      refine gk_callV (pc := 20) (d := (d + 3)) (w' := gv_D) (as := [.int a1]) (n := 1) 7 d_M_wantRow_20 rfl rfl rfl rfl (Nat.le_of_ble_eq_true rfl) tw_1868 tw_1870 tw_31 tw_99 cw_M_wantNumber hy_M_wantNumber (Nat.le_of_ble_eq_true rfl) (p_M_wantNumber d a0 a1 h) fun x4 h1 => ?_
      refine gk_dstore_n (pc := 23) (L' := [(2, .double x4), (0, va_rf a0), (1, .int a1)]) d_M_wantRow_23 (Nat.le_of_ble_eq_true rfl) rfl ?_
      refine gk_aload_n (pc := 24) 1 d_M_wantRow_24 rfl ?_
      refine gk_getI (pc := 25) 7 11 d_M_wantRow_25 rfl (Nat.le_of_ble_eq_true rfl) tw_1656 fun x5 => ?_
      refine gk_if_ne (pc := 28) 36 d_M_wantRow_28 rfl (fun _ => ?_) (fun _ => ?_)
      · refine gk_aload_n (pc := 31) 1 d_M_wantRow_31 rfl ?_
        refine gk_dload_n (pc := 32) 0 d_M_wantRow_32 rfl ?_
        refine gk_callV (pc := 33) (d := (d + 3)) (w' := gv_V) (as := [.double x4]) (n := 1) 7 d_M_wantRow_33 rfl rfl rfl rfl (Nat.le_of_ble_eq_true rfl) tw_1950 tw_1952 tw_44 tw_99 cw_M_gather hy_M_gather (Nat.le_of_ble_eq_true rfl) (p_M_gather (d + 3) a0 x4 h1) fun _ h2 => ?_
        refine gk_weak [] (L' := []) rfl ?_
        exact p_M_wantRow_b36 d h2
      · refine gk_weak [] (L' := []) rfl ?_
        exact p_M_wantRow_b36 d h1
  · exact gk_vret (pc := 7) rfl d_M_wantRow_7 rfl
theorem p_M_wantRow (d : Nat) (a0 : Option Nat) (a1 : Int32) (h : gk_H) : ∀ r h1, f_M_wantRow a0 a1 h = some (r, h1) → gk_M (d + 4) y_M_wantRow b_M_wantRow 4 none [va_rf a0, .int a1] h (.inl (gv_V r)) h1 :=
  fun r h1 e => gk_M_of2 (by decide +kernel) (by simp [lv_args, gk_cat_rf, gk_catI, gk_catJ, gk_catD, gv_V, gv_I, gv_J, gv_D, gv_R]) (by simp [lg_sl, gk_cat_rf, gk_catI, gk_catJ, gk_catD, gv_V, gv_I, gv_J, gv_D, gv_R]) (w_M_wantRow d a0 a1 h r h1 e)
theorem d_M_wantRows_0 : decode b_M_wantRows 0 = .ok (.aload_n 0, 1) := by decide +kernel
theorem d_M_wantRows_1 : decode b_M_wantRows 1 = .ok (.iconst 0, 1) := by decide +kernel
theorem d_M_wantRows_2 : decode b_M_wantRows 2 = .ok (.putfield 164, 3) := by decide +kernel
theorem d_M_wantRows_5 : decode b_M_wantRows 5 = .ok (.iload_n 1, 1) := by decide +kernel
theorem d_M_wantRows_6 : decode b_M_wantRows 6 = .ok (.istore_n 3, 1) := by decide +kernel
theorem d_M_wantRows_7 : decode b_M_wantRows 7 = .ok (.iload_n 3, 1) := by decide +kernel
theorem d_M_wantRows_8 : decode b_M_wantRows 8 = .ok (.iload_n 1, 1) := by decide +kernel
theorem d_M_wantRows_9 : decode b_M_wantRows 9 = .ok (.iload_n 2, 1) := by decide +kernel
theorem d_M_wantRows_10 : decode b_M_wantRows 10 = .ok (.iadd, 1) := by decide +kernel
theorem d_M_wantRows_11 : decode b_M_wantRows 11 = .ok (.if_icmp .ge 14, 3) := by decide +kernel
theorem d_M_wantRows_14 : decode b_M_wantRows 14 = .ok (.aload_n 0, 1) := by decide +kernel
theorem d_M_wantRows_15 : decode b_M_wantRows 15 = .ok (.iload_n 3, 1) := by decide +kernel
theorem d_M_wantRows_16 : decode b_M_wantRows 16 = .ok (.invokevirtual 171, 3) := by decide +kernel
theorem d_M_wantRows_19 : decode b_M_wantRows 19 = .ok (.iinc 3 1, 3) := by decide +kernel
theorem d_M_wantRows_22 : decode b_M_wantRows 22 = .ok (.goto (-15), 3) := by decide +kernel
theorem d_M_wantRows_25 : decode b_M_wantRows 25 = .ok (.return_, 1) := by decide +kernel
theorem p_M_wantRows_b7 (d : Nat)  : ∀ (fu : Nat) (v0 : Option Nat) (v1 : Int32) (v2 : Int32) (v3 : Int32) (h : gk_H), gk_P gw_V (d + 5) y_M_wantRows b_M_wantRows 4 none [] (f_M_wantRows_b7  fu v0 v1 v2 v3 h) 7 [(0, va_rf v0), (1, .int v1), (2, .int v2), (3, .int v3)] [] h := by
  intro fu
  induction fu with
  | zero => intros; exact gk_none
  | succ fu q7 =>
    intro v0 v1 v2 v3 h
    rw [f_M_wantRows_b7]
    refine gk_iload_n (pc := 7) 3 d_M_wantRows_7 rfl ?_
    refine gk_iload_n (pc := 8) 1 d_M_wantRows_8 rfl ?_
    refine gk_iload_n (pc := 9) 2 d_M_wantRows_9 rfl ?_
    refine gk_iadd (pc := 10) d_M_wantRows_10 ?_
    refine gk_icmp_ge (pc := 11) 25 d_M_wantRows_11 rfl (fun _ => ?_) (fun _ => ?_)
    · exact gk_vret (pc := 25) rfl d_M_wantRows_25 rfl
    · refine gk_aload_n (pc := 14) 0 d_M_wantRows_14 rfl ?_
      refine gk_iload_n (pc := 15) 3 d_M_wantRows_15 rfl ?_
      refine gk_callV (pc := 16) (d := (d + 4)) (w' := gv_V) (as := [.int v3]) (n := 1) 7 d_M_wantRows_16 rfl rfl rfl rfl (Nat.le_of_ble_eq_true rfl) tw_1966 tw_1968 tw_48 tw_99 cw_M_wantRow hy_M_wantRow (Nat.le_of_ble_eq_true rfl) (p_M_wantRow d v0 v3 h) fun _ h1 => ?_
      refine gk_iincN (pc := 19) 3 (1 : Int32) (L' := fun x1 => [(3, .int x1), (0, va_rf v0), (1, .int v1), (2, .int v2)]) d_M_wantRows_19 rfl rfl (Nat.le_of_ble_eq_true rfl) (fun _ => rfl) fun x1 => ?_
      refine gk_goto (pc := 22) 7 d_M_wantRows_22 rfl ?_
      refine gk_weak [1, 2, 3, 0] (L' := [(0, va_rf v0), (1, .int v1), (2, .int v2), (3, .int x1)]) rfl ?_
      exact q7 v0 v1 v2 x1 h1
theorem w_M_wantRows (d : Nat) (a0 : Option Nat) (a1 : Int32) (a2 : Int32) (h : gk_H) : gk_P gw_V (d + 5) y_M_wantRows b_M_wantRows 4 none [] (f_M_wantRows a0 a1 a2 h) 0 [(0, va_rf a0), (1, .int a1), (2, .int a2)] [] h := by
  unfold f_M_wantRows
  refine gk_aload_n (pc := 0) 0 d_M_wantRows_0 rfl ?_
  refine gk_iconst (pc := 1) (0 : Int32) d_M_wantRows_1 rfl ?_
  refine gk_putfield (pc := 2) 7 12 d_M_wantRows_2 rfl (Nat.le_of_ble_eq_true rfl) tw_1657 (Or.inl rfl) fun h1 => ?_
  refine gk_iload_n (pc := 5) 1 d_M_wantRows_5 rfl ?_
  refine gk_istore_n (pc := 6) (L' := [(3, .int a1), (0, va_rf a0), (1, .int a1), (2, .int a2)]) d_M_wantRows_6 (Nat.le_of_ble_eq_true rfl) rfl ?_
  refine gk_weak [1, 2, 3, 0] (L' := [(0, va_rf a0), (1, .int a1), (2, .int a2), (3, .int a1)]) rfl ?_
  exact p_M_wantRows_b7 d gk_F a0 a1 a2 a1 h1
theorem p_M_wantRows (d : Nat) (a0 : Option Nat) (a1 : Int32) (a2 : Int32) (h : gk_H) : ∀ r h1, f_M_wantRows a0 a1 a2 h = some (r, h1) → gk_M (d + 5) y_M_wantRows b_M_wantRows 4 none [va_rf a0, .int a1, .int a2] h (.inl (gv_V r)) h1 :=
  fun r h1 e => gk_M_of2 (by decide +kernel) (by simp [lv_args, gk_cat_rf, gk_catI, gk_catJ, gk_catD, gv_V, gv_I, gv_J, gv_D, gv_R]) (by simp [lg_sl, gk_cat_rf, gk_catI, gk_catJ, gk_catD, gv_V, gv_I, gv_J, gv_D, gv_R]) (w_M_wantRows d a0 a1 a2 h r h1 e)
theorem d_M_addSquare_0 : decode b_M_addSquare 0 = .ok (.aload_n 0, 1) := by decide +kernel
theorem d_M_addSquare_1 : decode b_M_addSquare 1 = .ok (.dload_n 3, 1) := by decide +kernel
theorem d_M_addSquare_2 : decode b_M_addSquare 2 = .ok (.dload_n 3, 1) := by decide +kernel
theorem d_M_addSquare_3 : decode b_M_addSquare 3 = .ok (.dmul, 1) := by decide +kernel
theorem d_M_addSquare_4 : decode b_M_addSquare 4 = .ok (.invokevirtual 217, 3) := by decide +kernel
theorem d_M_addSquare_7 : decode b_M_addSquare 7 = .ok (.dstore 5, 2) := by decide +kernel
theorem d_M_addSquare_9 : decode b_M_addSquare 9 = .ok (.aload_n 0, 1) := by decide +kernel
theorem d_M_addSquare_10 : decode b_M_addSquare 10 = .ok (.getfield 62, 3) := by decide +kernel
theorem d_M_addSquare_13 : decode b_M_addSquare 13 = .ok (.ifCond .le 7, 3) := by decide +kernel
theorem d_M_addSquare_16 : decode b_M_addSquare 16 = .ok (.dconst 0, 1) := by decide +kernel
theorem d_M_addSquare_17 : decode b_M_addSquare 17 = .ok (.goto 11, 3) := by decide +kernel
theorem d_M_addSquare_20 : decode b_M_addSquare 20 = .ok (.aload_n 0, 1) := by decide +kernel
theorem d_M_addSquare_21 : decode b_M_addSquare 21 = .ok (.dload_n 1, 1) := by decide +kernel
theorem d_M_addSquare_22 : decode b_M_addSquare 22 = .ok (.dload 5, 2) := by decide +kernel
theorem d_M_addSquare_24 : decode b_M_addSquare 24 = .ok (.dadd, 1) := by decide +kernel
theorem d_M_addSquare_25 : decode b_M_addSquare 25 = .ok (.invokevirtual 217, 3) := by decide +kernel
theorem d_M_addSquare_28 : decode b_M_addSquare 28 = .ok (.dreturn, 1) := by decide +kernel
theorem p_M_addSquare_b28 (d : Nat)  (s0 : UInt64) (h : gk_H) : gk_P gw_D (d + 2) y_M_addSquare b_M_addSquare 7 (some .double) [] (f_M_addSquare_b28  s0 h) 28 [] [.double s0] h := by
  unfold f_M_addSquare_b28
  exact gk_dret (pc := 28) rfl d_M_addSquare_28 rfl
theorem w_M_addSquare (d : Nat) (a0 : Option Nat) (a1 : UInt64) (a2 : UInt64) (h : gk_H) : gk_P gw_D (d + 2) y_M_addSquare b_M_addSquare 7 (some .double) [] (f_M_addSquare a0 a1 a2 h) 0 [(0, va_rf a0), (1, .double a1), (3, .double a2)] [] h := by
  unfold f_M_addSquare
  refine gk_aload_n (pc := 0) 0 d_M_addSquare_0 rfl ?_
  refine gk_dload_n (pc := 1) 2 d_M_addSquare_1 rfl ?_
  refine gk_dload_n (pc := 2) 2 d_M_addSquare_2 rfl ?_
  refine gk_dmulN (pc := 3) d_M_addSquare_3 fun x1 => ?_
  refine gk_callV (pc := 4) (d := (d + 1)) (w' := gv_D) (as := [.double x1]) (n := 1) 7 d_M_addSquare_4 rfl rfl rfl rfl (Nat.le_of_ble_eq_true rfl) tw_1903 tw_1905 tw_36 tw_99 cw_M_step hy_M_step (Nat.le_of_ble_eq_true rfl) (p_M_step d a0 x1 h) fun x2 h1 => ?_
  refine gk_dstore (pc := 7) (L' := [(5, .double x2), (0, va_rf a0), (1, .double a1), (3, .double a2)]) d_M_addSquare_7 (Nat.le_of_ble_eq_true rfl) rfl ?_
  refine gk_aload_n (pc := 9) 1 d_M_addSquare_9 rfl ?_
  refine gk_getI (pc := 10) 7 11 d_M_addSquare_10 rfl (Nat.le_of_ble_eq_true rfl) tw_1656 fun x3 => ?_
  refine gk_if_le (pc := 13) 20 d_M_addSquare_13 rfl (fun _ => ?_) (fun _ => ?_)
  · refine gk_aload_n (pc := 20) 1 d_M_addSquare_20 rfl ?_
    refine gk_dload_n (pc := 21) 2 d_M_addSquare_21 rfl ?_
    refine gk_dload (pc := 22) 0 d_M_addSquare_22 rfl ?_
    refine gk_daddN (pc := 24) d_M_addSquare_24 fun x4 => ?_
    refine gk_callV (pc := 25) (d := (d + 1)) (w' := gv_D) (as := [.double x4]) (n := 1) 7 d_M_addSquare_25 rfl rfl rfl rfl (Nat.le_of_ble_eq_true rfl) tw_1903 tw_1905 tw_36 tw_99 cw_M_step hy_M_step (Nat.le_of_ble_eq_true rfl) (p_M_step d a0 x4 h1) fun x5 h2 => ?_
    refine gk_weak [] (L' := []) rfl ?_
    exact p_M_addSquare_b28 d x5 h2
  · refine gk_dconst0 (pc := 16) d_M_addSquare_16 ?_
    refine gk_goto (pc := 17) 28 d_M_addSquare_17 rfl ?_
    refine gk_weak [] (L' := []) rfl ?_
    exact p_M_addSquare_b28 d (0x0000000000000000) h1
theorem p_M_addSquare (d : Nat) (a0 : Option Nat) (a1 : UInt64) (a2 : UInt64) (h : gk_H) : ∀ r h1, f_M_addSquare a0 a1 a2 h = some (r, h1) → gk_M (d + 2) y_M_addSquare b_M_addSquare 7 (some .double) [va_rf a0, .double a1, .double a2] h (.inl (gv_D r)) h1 :=
  fun r h1 e => gk_M_of2 (by decide +kernel) (by simp [lv_args, gk_cat_rf, gk_catI, gk_catJ, gk_catD, gv_V, gv_I, gv_J, gv_D, gv_R]) (by simp [lg_sl, gk_cat_rf, gk_catI, gk_catJ, gk_catD, gv_V, gv_I, gv_J, gv_D, gv_R]) (w_M_addSquare d a0 a1 a2 h r h1 e)
theorem d_M_median_0 : decode b_M_median 0 = .ok (.aload_n 0, 1) := by decide +kernel
theorem d_M_median_1 : decode b_M_median 1 = .ok (.getfield 164, 3) := by decide +kernel
theorem d_M_median_4 : decode b_M_median 4 = .ok (.ifCond .ne 11, 3) := by decide +kernel
theorem d_M_median_7 : decode b_M_median 7 = .ok (.aload_n 0, 1) := by decide +kernel
theorem d_M_median_8 : decode b_M_median 8 = .ok (.bipush 6, 2) := by decide +kernel
theorem d_M_median_10 : decode b_M_median 10 = .ok (.invokevirtual 58, 3) := by decide +kernel
theorem d_M_median_13 : decode b_M_median 13 = .ok (.dconst 0, 1) := by decide +kernel
theorem d_M_median_14 : decode b_M_median 14 = .ok (.dreturn, 1) := by decide +kernel
theorem d_M_median_15 : decode b_M_median 15 = .ok (.aload_n 0, 1) := by decide +kernel
theorem d_M_median_16 : decode b_M_median 16 = .ok (.invokevirtual 288, 3) := by decide +kernel
theorem d_M_median_19 : decode b_M_median 19 = .ok (.aload_n 0, 1) := by decide +kernel
theorem d_M_median_20 : decode b_M_median 20 = .ok (.getfield 164, 3) := by decide +kernel
theorem d_M_median_23 : decode b_M_median 23 = .ok (.iconst 2, 1) := by decide +kernel
theorem d_M_median_24 : decode b_M_median 24 = .ok (.irem, 1) := by decide +kernel
theorem d_M_median_25 : decode b_M_median 25 = .ok (.iconst 1, 1) := by decide +kernel
theorem d_M_median_26 : decode b_M_median 26 = .ok (.if_icmp .ne 15, 3) := by decide +kernel
theorem d_M_median_29 : decode b_M_median 29 = .ok (.aload_n 0, 1) := by decide +kernel
theorem d_M_median_30 : decode b_M_median 30 = .ok (.getfield 37, 3) := by decide +kernel
theorem d_M_median_33 : decode b_M_median 33 = .ok (.aload_n 0, 1) := by decide +kernel
theorem d_M_median_34 : decode b_M_median 34 = .ok (.getfield 164, 3) := by decide +kernel
theorem d_M_median_37 : decode b_M_median 37 = .ok (.iconst 2, 1) := by decide +kernel
theorem d_M_median_38 : decode b_M_median 38 = .ok (.idiv, 1) := by decide +kernel
theorem d_M_median_39 : decode b_M_median 39 = .ok (.daload, 1) := by decide +kernel
theorem d_M_median_40 : decode b_M_median 40 = .ok (.dreturn, 1) := by decide +kernel
theorem d_M_median_41 : decode b_M_median 41 = .ok (.aload_n 0, 1) := by decide +kernel
theorem d_M_median_42 : decode b_M_median 42 = .ok (.aload_n 0, 1) := by decide +kernel
theorem d_M_median_43 : decode b_M_median 43 = .ok (.getfield 37, 3) := by decide +kernel
theorem d_M_median_46 : decode b_M_median 46 = .ok (.aload_n 0, 1) := by decide +kernel
theorem d_M_median_47 : decode b_M_median 47 = .ok (.getfield 164, 3) := by decide +kernel
theorem d_M_median_50 : decode b_M_median 50 = .ok (.iconst 2, 1) := by decide +kernel
theorem d_M_median_51 : decode b_M_median 51 = .ok (.idiv, 1) := by decide +kernel
theorem d_M_median_52 : decode b_M_median 52 = .ok (.iconst 1, 1) := by decide +kernel
theorem d_M_median_53 : decode b_M_median 53 = .ok (.isub, 1) := by decide +kernel
theorem d_M_median_54 : decode b_M_median 54 = .ok (.daload, 1) := by decide +kernel
theorem d_M_median_55 : decode b_M_median 55 = .ok (.aload_n 0, 1) := by decide +kernel
theorem d_M_median_56 : decode b_M_median 56 = .ok (.getfield 37, 3) := by decide +kernel
theorem d_M_median_59 : decode b_M_median 59 = .ok (.aload_n 0, 1) := by decide +kernel
theorem d_M_median_60 : decode b_M_median 60 = .ok (.getfield 164, 3) := by decide +kernel
theorem d_M_median_63 : decode b_M_median 63 = .ok (.iconst 2, 1) := by decide +kernel
theorem d_M_median_64 : decode b_M_median 64 = .ok (.idiv, 1) := by decide +kernel
theorem d_M_median_65 : decode b_M_median 65 = .ok (.daload, 1) := by decide +kernel
theorem d_M_median_66 : decode b_M_median 66 = .ok (.dadd, 1) := by decide +kernel
theorem d_M_median_67 : decode b_M_median 67 = .ok (.invokevirtual 217, 3) := by decide +kernel
theorem d_M_median_70 : decode b_M_median 70 = .ok (.dstore_n 1, 1) := by decide +kernel
theorem d_M_median_71 : decode b_M_median 71 = .ok (.dload_n 1, 1) := by decide +kernel
theorem d_M_median_72 : decode b_M_median 72 = .ok (.ldc2_w 291, 3) := by decide +kernel
theorem d_M_median_75 : decode b_M_median 75 = .ok (.ddiv, 1) := by decide +kernel
theorem d_M_median_76 : decode b_M_median 76 = .ok (.dreturn, 1) := by decide +kernel
theorem w_M_median (d : Nat) (a0 : Option Nat) (h : gk_H) : gk_P gw_D (d + 2) y_M_median b_M_median 3 (some .double) [] (f_M_median a0 h) 0 [(0, va_rf a0)] [] h := by
  unfold f_M_median
  refine gk_aload_n (pc := 0) 0 d_M_median_0 rfl ?_
  refine gk_getI (pc := 1) 7 12 d_M_median_1 rfl (Nat.le_of_ble_eq_true rfl) tw_1657 fun x1 => ?_
  refine gk_if_ne (pc := 4) 15 d_M_median_4 rfl (fun _ => ?_) (fun _ => ?_)
  · refine gk_aload_n (pc := 7) 0 d_M_median_7 rfl ?_
    refine gk_bipush (pc := 8) (6 : Int32) d_M_median_8 rfl ?_
    refine gk_callV (pc := 10) (d := (d + 1)) (w' := gv_V) (as := [.int (6 : Int32)]) (n := 1) 7 d_M_median_10 rfl rfl rfl rfl (Nat.le_of_ble_eq_true rfl) tw_1805 tw_1807 tw_21 tw_99 cw_M_fail hy_M_fail (Nat.le_of_ble_eq_true rfl) (p_M_fail (d + 1) a0 (6 : Int32) h) fun _ h1 => ?_
    refine gk_dconst0 (pc := 13) d_M_median_13 ?_
    exact gk_dret (pc := 14) rfl d_M_median_14 rfl
  · refine gk_aload_n (pc := 15) 0 d_M_median_15 rfl ?_
    refine gk_callV (pc := 16) (d := (d + 1)) (w' := gv_V) (as := []) (n := 0) 7 d_M_median_16 rfl rfl rfl rfl (Nat.le_of_ble_eq_true rfl) tw_1958 tw_1960 tw_46 tw_99 cw_M_sort hy_M_sort (Nat.le_of_ble_eq_true rfl) (p_M_sort (d + 1) a0 h) fun _ h2 => ?_
    refine gk_aload_n (pc := 19) 0 d_M_median_19 rfl ?_
    refine gk_getI (pc := 20) 7 12 d_M_median_20 rfl (Nat.le_of_ble_eq_true rfl) tw_1657 fun x2 => ?_
    refine gk_iconst (pc := 23) (2 : Int32) d_M_median_23 rfl ?_
    refine gk_irem (pc := 24) (by decide) d_M_median_24 ?_
    refine gk_iconst (pc := 25) (1 : Int32) d_M_median_25 rfl ?_
    refine gk_icmp_ne (pc := 26) 41 d_M_median_26 rfl (fun _ => ?_) (fun _ => ?_)
    · refine gk_aload_n (pc := 29) 0 d_M_median_29 rfl ?_
      refine gk_getR (pc := 30) 7 13 d_M_median_30 rfl (Nat.le_of_ble_eq_true rfl) tw_1658 fun x3 => ?_
      refine gk_aload_n (pc := 33) 0 d_M_median_33 rfl ?_
      refine gk_getI (pc := 34) 7 12 d_M_median_34 rfl (Nat.le_of_ble_eq_true rfl) tw_1657 fun x4 => ?_
      refine gk_iconst (pc := 37) (2 : Int32) d_M_median_37 rfl ?_
      refine gk_idiv (pc := 38) (by decide) d_M_median_38 ?_
      refine gk_dald (pc := 39) d_M_median_39 fun x5 => ?_
      exact gk_dret (pc := 40) rfl d_M_median_40 rfl
    · refine gk_aload_n (pc := 41) 0 d_M_median_41 rfl ?_
      refine gk_aload_n (pc := 42) 0 d_M_median_42 rfl ?_
      refine gk_getR (pc := 43) 7 13 d_M_median_43 rfl (Nat.le_of_ble_eq_true rfl) tw_1658 fun x6 => ?_
      refine gk_aload_n (pc := 46) 0 d_M_median_46 rfl ?_
      refine gk_getI (pc := 47) 7 12 d_M_median_47 rfl (Nat.le_of_ble_eq_true rfl) tw_1657 fun x7 => ?_
      refine gk_iconst (pc := 50) (2 : Int32) d_M_median_50 rfl ?_
      refine gk_idiv (pc := 51) (by decide) d_M_median_51 ?_
      refine gk_iconst (pc := 52) (1 : Int32) d_M_median_52 rfl ?_
      refine gk_isub (pc := 53) d_M_median_53 ?_
      refine gk_dald (pc := 54) d_M_median_54 fun x8 => ?_
      refine gk_aload_n (pc := 55) 0 d_M_median_55 rfl ?_
      refine gk_getR (pc := 56) 7 13 d_M_median_56 rfl (Nat.le_of_ble_eq_true rfl) tw_1658 fun x9 => ?_
      refine gk_aload_n (pc := 59) 0 d_M_median_59 rfl ?_
      refine gk_getI (pc := 60) 7 12 d_M_median_60 rfl (Nat.le_of_ble_eq_true rfl) tw_1657 fun x10 => ?_
      refine gk_iconst (pc := 63) (2 : Int32) d_M_median_63 rfl ?_
      refine gk_idiv (pc := 64) (by decide) d_M_median_64 ?_
      refine gk_dald (pc := 65) d_M_median_65 fun x11 => ?_
      refine gk_daddN (pc := 66) d_M_median_66 fun x12 => ?_
      refine gk_callV (pc := 67) (d := (d + 1)) (w' := gv_D) (as := [.double x12]) (n := 1) 7 d_M_median_67 rfl rfl rfl rfl (Nat.le_of_ble_eq_true rfl) tw_1903 tw_1905 tw_36 tw_99 cw_M_step hy_M_step (Nat.le_of_ble_eq_true rfl) (p_M_step d a0 x12 h2) fun x13 h3 => ?_
      refine gk_dstore_n (pc := 70) (L' := [(1, .double x13), (0, va_rf a0)]) d_M_median_70 (Nat.le_of_ble_eq_true rfl) (by simp [gk_s1, gk_s2, gk_cat_rf, gk_catI, gk_catJ, gk_catD] <;> decide) ?_
      refine gk_dload_n (pc := 71) 0 d_M_median_71 rfl ?_
      refine gk_ldc2d (pc := 72) tw_1978 d_M_median_72 ?_
      refine gk_ddivN (pc := 75) d_M_median_75 fun x14 => ?_
      exact gk_dret (pc := 76) rfl d_M_median_76 rfl
theorem p_M_median (d : Nat) (a0 : Option Nat) (h : gk_H) : ∀ r h1, f_M_median a0 h = some (r, h1) → gk_M (d + 2) y_M_median b_M_median 3 (some .double) [va_rf a0] h (.inl (gv_D r)) h1 :=
  fun r h1 e => gk_M_of2 (by decide +kernel) (by simp [lv_args, gk_cat_rf, gk_catI, gk_catJ, gk_catD, gv_V, gv_I, gv_J, gv_D, gv_R]) (by simp [lg_sl, gk_cat_rf, gk_catI, gk_catJ, gk_catD, gv_V, gv_I, gv_J, gv_D, gv_R]) (w_M_median d a0 h r h1 e)
theorem d_M_variance_0 : decode b_M_variance 0 = .ok (.dconst 0, 1) := by decide +kernel
theorem d_M_variance_1 : decode b_M_variance 1 = .ok (.dstore_n 2, 1) := by decide +kernel
theorem d_M_variance_2 : decode b_M_variance 2 = .ok (.iconst 0, 1) := by decide +kernel
theorem d_M_variance_3 : decode b_M_variance 3 = .ok (.istore 4, 2) := by decide +kernel
theorem d_M_variance_5 : decode b_M_variance 5 = .ok (.iload 4, 2) := by decide +kernel
theorem d_M_variance_7 : decode b_M_variance 7 = .ok (.aload_n 0, 1) := by decide +kernel
theorem d_M_variance_8 : decode b_M_variance 8 = .ok (.getfield 164, 3) := by decide +kernel
theorem d_M_variance_11 : decode b_M_variance 11 = .ok (.if_icmp .ge 30, 3) := by decide +kernel
theorem d_M_variance_14 : decode b_M_variance 14 = .ok (.aload_n 0, 1) := by decide +kernel
theorem d_M_variance_15 : decode b_M_variance 15 = .ok (.getfield 62, 3) := by decide +kernel
theorem d_M_variance_18 : decode b_M_variance 18 = .ok (.ifCond .ne 23, 3) := by decide +kernel
theorem d_M_variance_21 : decode b_M_variance 21 = .ok (.aload_n 0, 1) := by decide +kernel
theorem d_M_variance_22 : decode b_M_variance 22 = .ok (.dload_n 2, 1) := by decide +kernel
theorem d_M_variance_23 : decode b_M_variance 23 = .ok (.aload_n 0, 1) := by decide +kernel
theorem d_M_variance_24 : decode b_M_variance 24 = .ok (.getfield 37, 3) := by decide +kernel
theorem d_M_variance_27 : decode b_M_variance 27 = .ok (.iload 4, 2) := by decide +kernel
theorem d_M_variance_29 : decode b_M_variance 29 = .ok (.daload, 1) := by decide +kernel
theorem d_M_variance_30 : decode b_M_variance 30 = .ok (.dadd, 1) := by decide +kernel
theorem d_M_variance_31 : decode b_M_variance 31 = .ok (.invokevirtual 217, 3) := by decide +kernel
theorem d_M_variance_34 : decode b_M_variance 34 = .ok (.dstore_n 2, 1) := by decide +kernel
theorem d_M_variance_35 : decode b_M_variance 35 = .ok (.iinc 4 1, 3) := by decide +kernel
theorem d_M_variance_38 : decode b_M_variance 38 = .ok (.goto (-33), 3) := by decide +kernel
theorem d_M_variance_41 : decode b_M_variance 41 = .ok (.aload_n 0, 1) := by decide +kernel
theorem d_M_variance_42 : decode b_M_variance 42 = .ok (.getfield 62, 3) := by decide +kernel
theorem d_M_variance_45 : decode b_M_variance 45 = .ok (.ifCond .le 5, 3) := by decide +kernel
theorem d_M_variance_48 : decode b_M_variance 48 = .ok (.dconst 0, 1) := by decide +kernel
theorem d_M_variance_49 : decode b_M_variance 49 = .ok (.dreturn, 1) := by decide +kernel
theorem d_M_variance_50 : decode b_M_variance 50 = .ok (.aload_n 0, 1) := by decide +kernel
theorem d_M_variance_51 : decode b_M_variance 51 = .ok (.dload_n 2, 1) := by decide +kernel
theorem d_M_variance_52 : decode b_M_variance 52 = .ok (.aload_n 0, 1) := by decide +kernel
theorem d_M_variance_53 : decode b_M_variance 53 = .ok (.getfield 164, 3) := by decide +kernel
theorem d_M_variance_56 : decode b_M_variance 56 = .ok (.i2d, 1) := by decide +kernel
theorem d_M_variance_57 : decode b_M_variance 57 = .ok (.invokevirtual 221, 3) := by decide +kernel
theorem d_M_variance_60 : decode b_M_variance 60 = .ok (.dstore 4, 2) := by decide +kernel
theorem d_M_variance_62 : decode b_M_variance 62 = .ok (.aload_n 0, 1) := by decide +kernel
theorem d_M_variance_63 : decode b_M_variance 63 = .ok (.getfield 62, 3) := by decide +kernel
theorem d_M_variance_66 : decode b_M_variance 66 = .ok (.ifCond .le 5, 3) := by decide +kernel
theorem d_M_variance_69 : decode b_M_variance 69 = .ok (.dconst 0, 1) := by decide +kernel
theorem d_M_variance_70 : decode b_M_variance 70 = .ok (.dreturn, 1) := by decide +kernel
theorem d_M_variance_71 : decode b_M_variance 71 = .ok (.dconst 0, 1) := by decide +kernel
theorem d_M_variance_72 : decode b_M_variance 72 = .ok (.dstore 6, 2) := by decide +kernel
theorem d_M_variance_74 : decode b_M_variance 74 = .ok (.iconst 0, 1) := by decide +kernel
theorem d_M_variance_75 : decode b_M_variance 75 = .ok (.istore 8, 2) := by decide +kernel
theorem d_M_variance_77 : decode b_M_variance 77 = .ok (.iload 8, 2) := by decide +kernel
theorem d_M_variance_79 : decode b_M_variance 79 = .ok (.aload_n 0, 1) := by decide +kernel
theorem d_M_variance_80 : decode b_M_variance 80 = .ok (.getfield 164, 3) := by decide +kernel
theorem d_M_variance_83 : decode b_M_variance 83 = .ok (.if_icmp .ge 49, 3) := by decide +kernel
theorem d_M_variance_86 : decode b_M_variance 86 = .ok (.aload_n 0, 1) := by decide +kernel
theorem d_M_variance_87 : decode b_M_variance 87 = .ok (.getfield 62, 3) := by decide +kernel
theorem d_M_variance_90 : decode b_M_variance 90 = .ok (.ifCond .ne 42, 3) := by decide +kernel
theorem d_M_variance_93 : decode b_M_variance 93 = .ok (.aload_n 0, 1) := by decide +kernel
theorem d_M_variance_94 : decode b_M_variance 94 = .ok (.aload_n 0, 1) := by decide +kernel
theorem d_M_variance_95 : decode b_M_variance 95 = .ok (.getfield 37, 3) := by decide +kernel
theorem d_M_variance_98 : decode b_M_variance 98 = .ok (.iload 8, 2) := by decide +kernel
theorem d_M_variance_100 : decode b_M_variance 100 = .ok (.daload, 1) := by decide +kernel
theorem d_M_variance_101 : decode b_M_variance 101 = .ok (.dload 4, 2) := by decide +kernel
theorem d_M_variance_103 : decode b_M_variance 103 = .ok (.dsub, 1) := by decide +kernel
theorem d_M_variance_104 : decode b_M_variance 104 = .ok (.invokevirtual 217, 3) := by decide +kernel
theorem d_M_variance_107 : decode b_M_variance 107 = .ok (.dstore 9, 2) := by decide +kernel
theorem d_M_variance_109 : decode b_M_variance 109 = .ok (.aload_n 0, 1) := by decide +kernel
theorem d_M_variance_110 : decode b_M_variance 110 = .ok (.getfield 62, 3) := by decide +kernel
theorem d_M_variance_113 : decode b_M_variance 113 = .ok (.ifCond .ne 13, 3) := by decide +kernel
theorem d_M_variance_116 : decode b_M_variance 116 = .ok (.aload_n 0, 1) := by decide +kernel
theorem d_M_variance_117 : decode b_M_variance 117 = .ok (.dload 6, 2) := by decide +kernel
theorem d_M_variance_119 : decode b_M_variance 119 = .ok (.dload 9, 2) := by decide +kernel
theorem d_M_variance_121 : decode b_M_variance 121 = .ok (.invokevirtual 277, 3) := by decide +kernel
theorem d_M_variance_124 : decode b_M_variance 124 = .ok (.dstore 6, 2) := by decide +kernel
theorem d_M_variance_126 : decode b_M_variance 126 = .ok (.iinc 8 1, 3) := by decide +kernel
theorem d_M_variance_129 : decode b_M_variance 129 = .ok (.goto (-52), 3) := by decide +kernel
theorem d_M_variance_132 : decode b_M_variance 132 = .ok (.aload_n 0, 1) := by decide +kernel
theorem d_M_variance_133 : decode b_M_variance 133 = .ok (.getfield 62, 3) := by decide +kernel
theorem d_M_variance_136 : decode b_M_variance 136 = .ok (.ifCond .le 7, 3) := by decide +kernel
theorem d_M_variance_139 : decode b_M_variance 139 = .ok (.dconst 0, 1) := by decide +kernel
theorem d_M_variance_140 : decode b_M_variance 140 = .ok (.goto 28, 3) := by decide +kernel
theorem d_M_variance_143 : decode b_M_variance 143 = .ok (.aload_n 0, 1) := by decide +kernel
theorem d_M_variance_144 : decode b_M_variance 144 = .ok (.dload 6, 2) := by decide +kernel
theorem d_M_variance_146 : decode b_M_variance 146 = .ok (.iload_n 1, 1) := by decide +kernel
theorem d_M_variance_147 : decode b_M_variance 147 = .ok (.ifCond .eq 13, 3) := by decide +kernel
theorem d_M_variance_150 : decode b_M_variance 150 = .ok (.aload_n 0, 1) := by decide +kernel
theorem d_M_variance_151 : decode b_M_variance 151 = .ok (.getfield 164, 3) := by decide +kernel
theorem d_M_variance_154 : decode b_M_variance 154 = .ok (.iconst 1, 1) := by decide +kernel
theorem d_M_variance_155 : decode b_M_variance 155 = .ok (.isub, 1) := by decide +kernel
theorem d_M_variance_156 : decode b_M_variance 156 = .ok (.i2d, 1) := by decide +kernel
theorem d_M_variance_157 : decode b_M_variance 157 = .ok (.goto 8, 3) := by decide +kernel
theorem d_M_variance_160 : decode b_M_variance 160 = .ok (.aload_n 0, 1) := by decide +kernel
theorem d_M_variance_161 : decode b_M_variance 161 = .ok (.getfield 164, 3) := by decide +kernel
theorem d_M_variance_164 : decode b_M_variance 164 = .ok (.i2d, 1) := by decide +kernel
theorem d_M_variance_165 : decode b_M_variance 165 = .ok (.invokevirtual 221, 3) := by decide +kernel
theorem d_M_variance_168 : decode b_M_variance 168 = .ok (.dreturn, 1) := by decide +kernel
theorem p_M_variance_b168 (d : Nat)  (s0 : UInt64) (h : gk_H) : gk_P gw_D (d + 3) y_M_variance b_M_variance 11 (some .double) [] (f_M_variance_b168  s0 h) 168 [] [.double s0] h := by
  unfold f_M_variance_b168
  exact gk_dret (pc := 168) rfl d_M_variance_168 rfl
theorem p_M_variance_b165 (d : Nat)  (s0 : Option Nat) (s1 : UInt64) (s2 : UInt64) (h : gk_H) : gk_P gw_D (d + 3) y_M_variance b_M_variance 11 (some .double) [] (f_M_variance_b165  s0 s1 s2 h) 165 [] [.double s2, .double s1, va_rf s0] h := by
  unfold f_M_variance_b165
  refine gk_callV (pc := 165) (d := (d + 2)) (w' := gv_D) (as := [.double s1, .double s2]) (n := 2) 7 d_M_variance_165 rfl rfl rfl rfl (Nat.le_of_ble_eq_true rfl) tw_1912 tw_1914 tw_37 tw_99 cw_M_divide hy_M_divide (Nat.le_of_ble_eq_true rfl) (p_M_divide d s0 s1 s2 h) fun x1 h1 => ?_
  exact p_M_variance_b168 d x1 h1
theorem p_M_variance_b132 (d : Nat)  (v0 : Option Nat) (v1 : Int32) (v6 : UInt64) (h : gk_H) : gk_P gw_D (d + 3) y_M_variance b_M_variance 11 (some .double) [] (f_M_variance_b132  v0 v1 v6 h) 132 [(0, va_rf v0), (1, .int v1), (6, .double v6)] [] h := by
  unfold f_M_variance_b132
  refine gk_aload_n (pc := 132) 0 d_M_variance_132 rfl ?_
  refine gk_getI (pc := 133) 7 11 d_M_variance_133 rfl (Nat.le_of_ble_eq_true rfl) tw_1656 fun x1 => ?_
  refine gk_if_le (pc := 136) 143 d_M_variance_136 rfl (fun _ => ?_) (fun _ => ?_)
  · refine gk_aload_n (pc := 143) 0 d_M_variance_143 rfl ?_
    refine gk_dload (pc := 144) 2 d_M_variance_144 rfl ?_
    refine gk_iload_n (pc := 146) 1 d_M_variance_146 rfl ?_
    refine gk_if_eq (pc := 147) 160 d_M_variance_147 rfl (fun _ => ?_) (fun _ => ?_)
    · refine gk_aload_n (pc := 160) 0 d_M_variance_160 rfl ?_
      refine gk_getI (pc := 161) 7 12 d_M_variance_161 rfl (Nat.le_of_ble_eq_true rfl) tw_1657 fun x2 => ?_
      refine gk_i2d (pc := 164) d_M_variance_164 ?_
      refine gk_weak [] (L' := []) rfl ?_
      exact p_M_variance_b165 d v0 v6 (FP.i2d x2) h
    · refine gk_aload_n (pc := 150) 0 d_M_variance_150 rfl ?_
      refine gk_getI (pc := 151) 7 12 d_M_variance_151 rfl (Nat.le_of_ble_eq_true rfl) tw_1657 fun x3 => ?_
      refine gk_iconst (pc := 154) (1 : Int32) d_M_variance_154 rfl ?_
      refine gk_isub (pc := 155) d_M_variance_155 ?_
      refine gk_i2d (pc := 156) d_M_variance_156 ?_
      refine gk_goto (pc := 157) 165 d_M_variance_157 rfl ?_
      refine gk_weak [] (L' := []) rfl ?_
      exact p_M_variance_b165 d v0 v6 (FP.i2d (x3 - (1 : Int32))) h
  · refine gk_dconst0 (pc := 139) d_M_variance_139 ?_
    refine gk_goto (pc := 140) 168 d_M_variance_140 rfl ?_
    refine gk_weak [] (L' := []) rfl ?_
    exact p_M_variance_b168 d (0x0000000000000000) h
theorem p_M_variance_b126 (d : Nat) (b77 : Option Nat → Int32 → UInt64 → UInt64 → Int32 → gk_H → Option (UInt64 × gk_H)) (q77 : ∀ (v0 : Option Nat) (v1 : Int32) (v4 : UInt64) (v6 : UInt64) (v8 : Int32) (h : gk_H), gk_P gw_D (d + 3) y_M_variance b_M_variance 11 (some .double) [] (b77 v0 v1 v4 v6 v8 h) 77 [(0, va_rf v0), (1, .int v1), (4, .double v4), (6, .double v6), (8, .int v8)] [] h) (v0 : Option Nat) (v1 : Int32) (v4 : UInt64) (v6 : UInt64) (v8 : Int32) (h : gk_H) : gk_P gw_D (d + 3) y_M_variance b_M_variance 11 (some .double) [] (f_M_variance_b126 b77 v0 v1 v4 v6 v8 h) 126 [(0, va_rf v0), (1, .int v1), (4, .double v4), (6, .double v6), (8, .int v8)] [] h := by
  unfold f_M_variance_b126
  refine gk_iincN (pc := 126) 4 (1 : Int32) (L' := fun x1 => [(8, .int x1), (0, va_rf v0), (1, .int v1), (4, .double v4), (6, .double v6)]) d_M_variance_126 rfl rfl (Nat.le_of_ble_eq_true rfl) (fun _ => rfl) fun x1 => ?_
  refine gk_goto (pc := 129) 77 d_M_variance_129 rfl ?_
  refine gk_weak [1, 2, 3, 4, 0] (L' := [(0, va_rf v0), (1, .int v1), (4, .double v4), (6, .double v6), (8, .int x1)]) rfl ?_
  exact q77 v0 v1 v4 v6 x1 h
theorem p_M_variance_b77 (d : Nat)  : ∀ (fu : Nat) (v0 : Option Nat) (v1 : Int32) (v4 : UInt64) (v6 : UInt64) (v8 : Int32) (h : gk_H), gk_P gw_D (d + 3) y_M_variance b_M_variance 11 (some .double) [] (f_M_variance_b77  fu v0 v1 v4 v6 v8 h) 77 [(0, va_rf v0), (1, .int v1), (4, .double v4), (6, .double v6), (8, .int v8)] [] h := by
  intro fu
  induction fu with
  | zero => intros; exact gk_none
  | succ fu q77 =>
    intro v0 v1 v4 v6 v8 h
    rw [f_M_variance_b77]
    refine gk_iload (pc := 77) 4 d_M_variance_77 rfl ?_
    refine gk_aload_n (pc := 79) 0 d_M_variance_79 rfl ?_
    refine gk_getI (pc := 80) 7 12 d_M_variance_80 rfl (Nat.le_of_ble_eq_true rfl) tw_1657 fun x1 => ?_
    refine gk_icmp_ge (pc := 83) 132 d_M_variance_83 rfl (fun _ => ?_) (fun _ => ?_)
    · refine gk_weak [0, 1, 3] (L' := [(0, va_rf v0), (1, .int v1), (6, .double v6)]) rfl ?_
      exact p_M_variance_b132 d v0 v1 v6 h
    · refine gk_aload_n (pc := 86) 0 d_M_variance_86 rfl ?_
      refine gk_getI (pc := 87) 7 11 d_M_variance_87 rfl (Nat.le_of_ble_eq_true rfl) tw_1656 fun x2 => ?_
      refine gk_if_ne (pc := 90) 132 d_M_variance_90 rfl (fun _ => ?_) (fun _ => ?_)
      · refine gk_aload_n (pc := 93) 0 d_M_variance_93 rfl ?_
        refine gk_aload_n (pc := 94) 0 d_M_variance_94 rfl ?_
        refine gk_getR (pc := 95) 7 13 d_M_variance_95 rfl (Nat.le_of_ble_eq_true rfl) tw_1658 fun x3 => ?_
        refine gk_iload (pc := 98) 4 d_M_variance_98 rfl ?_
        refine gk_dald (pc := 100) d_M_variance_100 fun x4 => ?_
        refine gk_dload (pc := 101) 2 d_M_variance_101 rfl ?_
        refine gk_dsubN (pc := 103) d_M_variance_103 fun x5 => ?_
        refine gk_callV (pc := 104) (d := (d + 2)) (w' := gv_D) (as := [.double x5]) (n := 1) 7 d_M_variance_104 rfl rfl rfl rfl (Nat.le_of_ble_eq_true rfl) tw_1903 tw_1905 tw_36 tw_99 cw_M_step hy_M_step (Nat.le_of_ble_eq_true rfl) (p_M_step (d + 1) v0 x5 h) fun x6 h1 => ?_
        refine gk_dstore (pc := 107) (L' := [(9, .double x6), (0, va_rf v0), (1, .int v1), (4, .double v4), (6, .double v6), (8, .int v8)]) d_M_variance_107 (Nat.le_of_ble_eq_true rfl) rfl ?_
        refine gk_aload_n (pc := 109) 1 d_M_variance_109 rfl ?_
        refine gk_getI (pc := 110) 7 11 d_M_variance_110 rfl (Nat.le_of_ble_eq_true rfl) tw_1656 fun x7 => ?_
        refine gk_if_ne (pc := 113) 126 d_M_variance_113 rfl (fun _ => ?_) (fun _ => ?_)
        · refine gk_aload_n (pc := 116) 1 d_M_variance_116 rfl ?_
          refine gk_dload (pc := 117) 4 d_M_variance_117 rfl ?_
          refine gk_dload (pc := 119) 0 d_M_variance_119 rfl ?_
          refine gk_callV (pc := 121) (d := (d + 2)) (w' := gv_D) (as := [.double v6, .double x6]) (n := 2) 7 d_M_variance_121 rfl rfl rfl rfl (Nat.le_of_ble_eq_true rfl) tw_1970 tw_1972 tw_49 tw_99 cw_M_addSquare hy_M_addSquare (Nat.le_of_ble_eq_true rfl) (p_M_addSquare d v0 v6 x6 h1) fun x8 h2 => ?_
          refine gk_dstore (pc := 124) (L' := [(6, .double x8), (9, .double x6), (0, va_rf v0), (1, .int v1), (4, .double v4), (8, .int v8)]) d_M_variance_124 (Nat.le_of_ble_eq_true rfl) rfl ?_
          refine gk_weak [2, 3, 4, 0, 5] (L' := [(0, va_rf v0), (1, .int v1), (4, .double v4), (6, .double x8), (8, .int v8)]) rfl ?_
          exact p_M_variance_b126 d (f_M_variance_b77 fu) q77 v0 v1 v4 x8 v8 h2
        · refine gk_weak [1, 2, 3, 4, 5] (L' := [(0, va_rf v0), (1, .int v1), (4, .double v4), (6, .double v6), (8, .int v8)]) rfl ?_
          exact p_M_variance_b126 d (f_M_variance_b77 fu) q77 v0 v1 v4 v6 v8 h1
      · refine gk_weak [0, 1, 3] (L' := [(0, va_rf v0), (1, .int v1), (6, .double v6)]) rfl ?_
        exact p_M_variance_b132 d v0 v1 v6 h
theorem p_M_variance_b41 (d : Nat)  (v0 : Option Nat) (v1 : Int32) (v2 : UInt64) (h : gk_H) : gk_P gw_D (d + 3) y_M_variance b_M_variance 11 (some .double) [] (f_M_variance_b41  v0 v1 v2 h) 41 [(0, va_rf v0), (1, .int v1), (2, .double v2)] [] h := by
  unfold f_M_variance_b41
  refine gk_aload_n (pc := 41) 0 d_M_variance_41 rfl ?_
  refine gk_getI (pc := 42) 7 11 d_M_variance_42 rfl (Nat.le_of_ble_eq_true rfl) tw_1656 fun x1 => ?_
  refine gk_if_le (pc := 45) 50 d_M_variance_45 rfl (fun _ => ?_) (fun _ => ?_)
  · refine gk_aload_n (pc := 50) 0 d_M_variance_50 rfl ?_
    refine gk_dload_n (pc := 51) 2 d_M_variance_51 rfl ?_
    refine gk_aload_n (pc := 52) 0 d_M_variance_52 rfl ?_
    refine gk_getI (pc := 53) 7 12 d_M_variance_53 rfl (Nat.le_of_ble_eq_true rfl) tw_1657 fun x2 => ?_
    refine gk_i2d (pc := 56) d_M_variance_56 ?_
    refine gk_callV (pc := 57) (d := (d + 2)) (w' := gv_D) (as := [.double v2, .double (FP.i2d x2)]) (n := 2) 7 d_M_variance_57 rfl rfl rfl rfl (Nat.le_of_ble_eq_true rfl) tw_1912 tw_1914 tw_37 tw_99 cw_M_divide hy_M_divide (Nat.le_of_ble_eq_true rfl) (p_M_divide d v0 v2 (FP.i2d x2) h) fun x3 h1 => ?_
    refine gk_dstore (pc := 60) (L' := [(4, .double x3), (0, va_rf v0), (1, .int v1), (2, .double v2)]) d_M_variance_60 (Nat.le_of_ble_eq_true rfl) rfl ?_
    refine gk_aload_n (pc := 62) 1 d_M_variance_62 rfl ?_
    refine gk_getI (pc := 63) 7 11 d_M_variance_63 rfl (Nat.le_of_ble_eq_true rfl) tw_1656 fun x4 => ?_
    refine gk_if_le (pc := 66) 71 d_M_variance_66 rfl (fun _ => ?_) (fun _ => ?_)
    · refine gk_dconst0 (pc := 71) d_M_variance_71 ?_
      refine gk_dstore (pc := 72) (L' := [(6, .double (0x0000000000000000)), (4, .double x3), (0, va_rf v0), (1, .int v1), (2, .double v2)]) d_M_variance_72 (Nat.le_of_ble_eq_true rfl) rfl ?_
      refine gk_iconst (pc := 74) (0 : Int32) d_M_variance_74 rfl ?_
      refine gk_istore (pc := 75) (L' := [(8, .int (0 : Int32)), (6, .double (0x0000000000000000)), (4, .double x3), (0, va_rf v0), (1, .int v1), (2, .double v2)]) d_M_variance_75 (Nat.le_of_ble_eq_true rfl) rfl ?_
      refine gk_weak [3, 4, 2, 1, 0] (L' := [(0, va_rf v0), (1, .int v1), (4, .double x3), (6, .double (0x0000000000000000)), (8, .int (0 : Int32))]) rfl ?_
      exact p_M_variance_b77 d gk_F v0 v1 x3 (0x0000000000000000) (0 : Int32) h1
    · refine gk_dconst0 (pc := 69) d_M_variance_69 ?_
      exact gk_dret (pc := 70) rfl d_M_variance_70 rfl
  · refine gk_dconst0 (pc := 48) d_M_variance_48 ?_
    exact gk_dret (pc := 49) rfl d_M_variance_49 rfl
theorem p_M_variance_b5 (d : Nat)  : ∀ (fu : Nat) (v0 : Option Nat) (v1 : Int32) (v2 : UInt64) (v4 : Int32) (h : gk_H), gk_P gw_D (d + 3) y_M_variance b_M_variance 11 (some .double) [] (f_M_variance_b5  fu v0 v1 v2 v4 h) 5 [(0, va_rf v0), (1, .int v1), (2, .double v2), (4, .int v4)] [] h := by
  intro fu
  induction fu with
  | zero => intros; exact gk_none
  | succ fu q5 =>
    intro v0 v1 v2 v4 h
    rw [f_M_variance_b5]
    refine gk_iload (pc := 5) 3 d_M_variance_5 rfl ?_
    refine gk_aload_n (pc := 7) 0 d_M_variance_7 rfl ?_
    refine gk_getI (pc := 8) 7 12 d_M_variance_8 rfl (Nat.le_of_ble_eq_true rfl) tw_1657 fun x1 => ?_
    refine gk_icmp_ge (pc := 11) 41 d_M_variance_11 rfl (fun _ => ?_) (fun _ => ?_)
    · refine gk_weak [0, 1, 2] (L' := [(0, va_rf v0), (1, .int v1), (2, .double v2)]) rfl ?_
      exact p_M_variance_b41 d v0 v1 v2 h
    · refine gk_aload_n (pc := 14) 0 d_M_variance_14 rfl ?_
      refine gk_getI (pc := 15) 7 11 d_M_variance_15 rfl (Nat.le_of_ble_eq_true rfl) tw_1656 fun x2 => ?_
      refine gk_if_ne (pc := 18) 41 d_M_variance_18 rfl (fun _ => ?_) (fun _ => ?_)
      · refine gk_aload_n (pc := 21) 0 d_M_variance_21 rfl ?_
        refine gk_dload_n (pc := 22) 2 d_M_variance_22 rfl ?_
        refine gk_aload_n (pc := 23) 0 d_M_variance_23 rfl ?_
        refine gk_getR (pc := 24) 7 13 d_M_variance_24 rfl (Nat.le_of_ble_eq_true rfl) tw_1658 fun x3 => ?_
        refine gk_iload (pc := 27) 3 d_M_variance_27 rfl ?_
        refine gk_dald (pc := 29) d_M_variance_29 fun x4 => ?_
        refine gk_daddN (pc := 30) d_M_variance_30 fun x5 => ?_
        refine gk_callV (pc := 31) (d := (d + 2)) (w' := gv_D) (as := [.double x5]) (n := 1) 7 d_M_variance_31 rfl rfl rfl rfl (Nat.le_of_ble_eq_true rfl) tw_1903 tw_1905 tw_36 tw_99 cw_M_step hy_M_step (Nat.le_of_ble_eq_true rfl) (p_M_step (d + 1) v0 x5 h) fun x6 h1 => ?_
        refine gk_dstore_n (pc := 34) (L' := [(2, .double x6), (0, va_rf v0), (1, .int v1), (4, .int v4)]) d_M_variance_34 (Nat.le_of_ble_eq_true rfl) rfl ?_
        refine gk_iincN (pc := 35) 3 (1 : Int32) (L' := fun x7 => [(4, .int x7), (2, .double x6), (0, va_rf v0), (1, .int v1)]) d_M_variance_35 rfl rfl (Nat.le_of_ble_eq_true rfl) (fun _ => rfl) fun x7 => ?_
        refine gk_goto (pc := 38) 5 d_M_variance_38 rfl ?_
        refine gk_weak [2, 3, 1, 0] (L' := [(0, va_rf v0), (1, .int v1), (2, .double x6), (4, .int x7)]) rfl ?_
        exact q5 v0 v1 x6 x7 h1
      · refine gk_weak [0, 1, 2] (L' := [(0, va_rf v0), (1, .int v1), (2, .double v2)]) rfl ?_
        exact p_M_variance_b41 d v0 v1 v2 h
theorem w_M_variance (d : Nat) (a0 : Option Nat) (a1 : Int32) (h : gk_H) : gk_P gw_D (d + 3) y_M_variance b_M_variance 11 (some .double) [] (f_M_variance a0 a1 h) 0 [(0, va_rf a0), (1, .int a1)] [] h := by
  unfold f_M_variance
  refine gk_dconst0 (pc := 0) d_M_variance_0 ?_
  refine gk_dstore_n (pc := 1) (L' := [(2, .double (0x0000000000000000)), (0, va_rf a0), (1, .int a1)]) d_M_variance_1 (Nat.le_of_ble_eq_true rfl) rfl ?_
  refine gk_iconst (pc := 2) (0 : Int32) d_M_variance_2 rfl ?_
  refine gk_istore (pc := 3) (L' := [(4, .int (0 : Int32)), (2, .double (0x0000000000000000)), (0, va_rf a0), (1, .int a1)]) d_M_variance_3 (Nat.le_of_ble_eq_true rfl) rfl ?_
  refine gk_weak [2, 3, 1, 0] (L' := [(0, va_rf a0), (1, .int a1), (2, .double (0x0000000000000000)), (4, .int (0 : Int32))]) rfl ?_
  exact p_M_variance_b5 d gk_F a0 a1 (0x0000000000000000) (0 : Int32) h
theorem p_M_variance (d : Nat) (a0 : Option Nat) (a1 : Int32) (h : gk_H) : ∀ r h1, f_M_variance a0 a1 h = some (r, h1) → gk_M (d + 3) y_M_variance b_M_variance 11 (some .double) [va_rf a0, .int a1] h (.inl (gv_D r)) h1 :=
  fun r h1 e => gk_M_of2 (by decide +kernel) (by simp [lv_args, gk_cat_rf, gk_catI, gk_catJ, gk_catD, gv_V, gv_I, gv_J, gv_D, gv_R]) (by simp [lg_sl, gk_cat_rf, gk_catI, gk_catJ, gk_catD, gv_V, gv_I, gv_J, gv_D, gv_R]) (w_M_variance d a0 a1 h r h1 e)
theorem d_M_figures_0 : decode b_M_figures 0 = .ok (.iload_n 1, 1) := by decide +kernel
theorem d_M_figures_1 : decode b_M_figures 1 = .ok (.iconst 5, 1) := by decide +kernel
theorem d_M_figures_2 : decode b_M_figures 2 = .ok (.if_icmp .le 22, 3) := by decide +kernel
theorem d_M_figures_5 : decode b_M_figures 5 = .ok (.iload_n 1, 1) := by decide +kernel
theorem d_M_figures_6 : decode b_M_figures 6 = .ok (.bipush 9, 2) := by decide +kernel
theorem d_M_figures_8 : decode b_M_figures 8 = .ok (.if_icmp .ge 16, 3) := by decide +kernel
theorem d_M_figures_11 : decode b_M_figures 11 = .ok (.aload_n 0, 1) := by decide +kernel
theorem d_M_figures_12 : decode b_M_figures 12 = .ok (.aload_n 0, 1) := by decide +kernel
theorem d_M_figures_13 : decode b_M_figures 13 = .ok (.iload_n 1, 1) := by decide +kernel
theorem d_M_figures_14 : decode b_M_figures 14 = .ok (.iload_n 2, 1) := by decide +kernel
theorem d_M_figures_15 : decode b_M_figures 15 = .ok (.iload_n 3, 1) := by decide +kernel
theorem d_M_figures_16 : decode b_M_figures 16 = .ok (.invokevirtual 268, 3) := by decide +kernel
theorem d_M_figures_19 : decode b_M_figures 19 = .ok (.i2d, 1) := by decide +kernel
theorem d_M_figures_20 : decode b_M_figures 20 = .ok (.invokevirtual 207, 3) := by decide +kernel
theorem d_M_figures_23 : decode b_M_figures 23 = .ok (.return_, 1) := by decide +kernel
theorem d_M_figures_24 : decode b_M_figures 24 = .ok (.iload_n 1, 1) := by decide +kernel
theorem d_M_figures_25 : decode b_M_figures 25 = .ok (.bipush 9, 2) := by decide +kernel
theorem d_M_figures_27 : decode b_M_figures 27 = .ok (.if_icmp .le 16, 3) := by decide +kernel
theorem d_M_figures_30 : decode b_M_figures 30 = .ok (.iload_n 1, 1) := by decide +kernel
theorem d_M_figures_31 : decode b_M_figures 31 = .ok (.bipush 13, 2) := by decide +kernel
theorem d_M_figures_33 : decode b_M_figures 33 = .ok (.if_icmp .ge 10, 3) := by decide +kernel
theorem d_M_figures_36 : decode b_M_figures 36 = .ok (.aload_n 0, 1) := by decide +kernel
theorem d_M_figures_37 : decode b_M_figures 37 = .ok (.iload_n 1, 1) := by decide +kernel
theorem d_M_figures_38 : decode b_M_figures 38 = .ok (.iload_n 2, 1) := by decide +kernel
theorem d_M_figures_39 : decode b_M_figures 39 = .ok (.invokevirtual 271, 3) := by decide +kernel
theorem d_M_figures_42 : decode b_M_figures 42 = .ok (.return_, 1) := by decide +kernel
theorem d_M_figures_43 : decode b_M_figures 43 = .ok (.aload_n 0, 1) := by decide +kernel
theorem d_M_figures_44 : decode b_M_figures 44 = .ok (.iload_n 2, 1) := by decide +kernel
theorem d_M_figures_45 : decode b_M_figures 45 = .ok (.iload_n 3, 1) := by decide +kernel
theorem d_M_figures_46 : decode b_M_figures 46 = .ok (.invokevirtual 274, 3) := by decide +kernel
theorem d_M_figures_49 : decode b_M_figures 49 = .ok (.aload_n 0, 1) := by decide +kernel
theorem d_M_figures_50 : decode b_M_figures 50 = .ok (.getfield 62, 3) := by decide +kernel
theorem d_M_figures_53 : decode b_M_figures 53 = .ok (.ifCond .le 4, 3) := by decide +kernel
theorem d_M_figures_56 : decode b_M_figures 56 = .ok (.return_, 1) := by decide +kernel
theorem d_M_figures_57 : decode b_M_figures 57 = .ok (.iload_n 1, 1) := by decide +kernel
theorem d_M_figures_58 : decode b_M_figures 58 = .ok (.iconst 1, 1) := by decide +kernel
theorem d_M_figures_59 : decode b_M_figures 59 = .ok (.if_icmp .ne 14, 3) := by decide +kernel
theorem d_M_figures_62 : decode b_M_figures 62 = .ok (.aload_n 0, 1) := by decide +kernel
theorem d_M_figures_63 : decode b_M_figures 63 = .ok (.getfield 164, 3) := by decide +kernel
theorem d_M_figures_66 : decode b_M_figures 66 = .ok (.ifCond .le 7, 3) := by decide +kernel
theorem d_M_figures_69 : decode b_M_figures 69 = .ok (.dconst 1, 1) := by decide +kernel
theorem d_M_figures_70 : decode b_M_figures 70 = .ok (.goto 4, 3) := by decide +kernel
theorem d_M_figures_73 : decode b_M_figures 73 = .ok (.dconst 0, 1) := by decide +kernel
theorem d_M_figures_74 : decode b_M_figures 74 = .ok (.dstore 4, 2) := by decide +kernel
theorem d_M_figures_76 : decode b_M_figures 76 = .ok (.iload_n 1, 1) := by decide +kernel
theorem d_M_figures_77 : decode b_M_figures 77 = .ok (.iconst 4, 1) := by decide +kernel
theorem d_M_figures_78 : decode b_M_figures 78 = .ok (.if_icmp .ge 115, 3) := by decide +kernel
theorem d_M_figures_81 : decode b_M_figures 81 = .ok (.iconst 0, 1) := by decide +kernel
theorem d_M_figures_82 : decode b_M_figures 82 = .ok (.istore 6, 2) := by decide +kernel
theorem d_M_figures_84 : decode b_M_figures 84 = .ok (.iload 6, 2) := by decide +kernel
theorem d_M_figures_86 : decode b_M_figures 86 = .ok (.aload_n 0, 1) := by decide +kernel
theorem d_M_figures_87 : decode b_M_figures 87 = .ok (.getfield 164, 3) := by decide +kernel
theorem d_M_figures_90 : decode b_M_figures 90 = .ok (.if_icmp .ge 75, 3) := by decide +kernel
theorem d_M_figures_93 : decode b_M_figures 93 = .ok (.aload_n 0, 1) := by decide +kernel
theorem d_M_figures_94 : decode b_M_figures 94 = .ok (.getfield 62, 3) := by decide +kernel
theorem d_M_figures_97 : decode b_M_figures 97 = .ok (.ifCond .ne 68, 3) := by decide +kernel
theorem d_M_figures_100 : decode b_M_figures 100 = .ok (.iload_n 1, 1) := by decide +kernel
theorem d_M_figures_101 : decode b_M_figures 101 = .ok (.iconst 1, 1) := by decide +kernel
theorem d_M_figures_102 : decode b_M_figures 102 = .ok (.if_icmp .ne 20, 3) := by decide +kernel
theorem d_M_figures_105 : decode b_M_figures 105 = .ok (.aload_n 0, 1) := by decide +kernel
theorem d_M_figures_106 : decode b_M_figures 106 = .ok (.dload 4, 2) := by decide +kernel
theorem d_M_figures_108 : decode b_M_figures 108 = .ok (.aload_n 0, 1) := by decide +kernel
theorem d_M_figures_109 : decode b_M_figures 109 = .ok (.getfield 37, 3) := by decide +kernel
theorem d_M_figures_112 : decode b_M_figures 112 = .ok (.iload 6, 2) := by decide +kernel
theorem d_M_figures_114 : decode b_M_figures 114 = .ok (.daload, 1) := by decide +kernel
theorem d_M_figures_115 : decode b_M_figures 115 = .ok (.dmul, 1) := by decide +kernel
theorem d_M_figures_116 : decode b_M_figures 116 = .ok (.invokevirtual 217, 3) := by decide +kernel
theorem d_M_figures_119 : decode b_M_figures 119 = .ok (.goto 38, 3) := by decide +kernel
theorem d_M_figures_122 : decode b_M_figures 122 = .ok (.iload_n 1, 1) := by decide +kernel
theorem d_M_figures_123 : decode b_M_figures 123 = .ok (.iconst 2, 1) := by decide +kernel
theorem d_M_figures_124 : decode b_M_figures 124 = .ok (.if_icmp .ne 19, 3) := by decide +kernel
theorem d_M_figures_127 : decode b_M_figures 127 = .ok (.aload_n 0, 1) := by decide +kernel
theorem d_M_figures_128 : decode b_M_figures 128 = .ok (.dload 4, 2) := by decide +kernel
theorem d_M_figures_130 : decode b_M_figures 130 = .ok (.aload_n 0, 1) := by decide +kernel
theorem d_M_figures_131 : decode b_M_figures 131 = .ok (.getfield 37, 3) := by decide +kernel
theorem d_M_figures_134 : decode b_M_figures 134 = .ok (.iload 6, 2) := by decide +kernel
theorem d_M_figures_136 : decode b_M_figures 136 = .ok (.daload, 1) := by decide +kernel
theorem d_M_figures_137 : decode b_M_figures 137 = .ok (.invokevirtual 277, 3) := by decide +kernel
theorem d_M_figures_140 : decode b_M_figures 140 = .ok (.goto 17, 3) := by decide +kernel
theorem d_M_figures_143 : decode b_M_figures 143 = .ok (.aload_n 0, 1) := by decide +kernel
theorem d_M_figures_144 : decode b_M_figures 144 = .ok (.dload 4, 2) := by decide +kernel
theorem d_M_figures_146 : decode b_M_figures 146 = .ok (.aload_n 0, 1) := by decide +kernel
theorem d_M_figures_147 : decode b_M_figures 147 = .ok (.getfield 37, 3) := by decide +kernel
theorem d_M_figures_150 : decode b_M_figures 150 = .ok (.iload 6, 2) := by decide +kernel
theorem d_M_figures_152 : decode b_M_figures 152 = .ok (.daload, 1) := by decide +kernel
theorem d_M_figures_153 : decode b_M_figures 153 = .ok (.dadd, 1) := by decide +kernel
theorem d_M_figures_154 : decode b_M_figures 154 = .ok (.invokevirtual 217, 3) := by decide +kernel
theorem d_M_figures_157 : decode b_M_figures 157 = .ok (.dstore 4, 2) := by decide +kernel
theorem d_M_figures_159 : decode b_M_figures 159 = .ok (.iinc 6 1, 3) := by decide +kernel
theorem d_M_figures_162 : decode b_M_figures 162 = .ok (.goto (-78), 3) := by decide +kernel
theorem d_M_figures_165 : decode b_M_figures 165 = .ok (.aload_n 0, 1) := by decide +kernel
theorem d_M_figures_166 : decode b_M_figures 166 = .ok (.getfield 62, 3) := by decide +kernel
theorem d_M_figures_169 : decode b_M_figures 169 = .ok (.ifCond .ne 162, 3) := by decide +kernel
theorem d_M_figures_172 : decode b_M_figures 172 = .ok (.iload_n 1, 1) := by decide +kernel
theorem d_M_figures_173 : decode b_M_figures 173 = .ok (.iconst 3, 1) := by decide +kernel
theorem d_M_figures_174 : decode b_M_figures 174 = .ok (.if_icmp .ne 157, 3) := by decide +kernel
theorem d_M_figures_177 : decode b_M_figures 177 = .ok (.aload_n 0, 1) := by decide +kernel
theorem d_M_figures_178 : decode b_M_figures 178 = .ok (.dload 4, 2) := by decide +kernel
theorem d_M_figures_180 : decode b_M_figures 180 = .ok (.aload_n 0, 1) := by decide +kernel
theorem d_M_figures_181 : decode b_M_figures 181 = .ok (.getfield 164, 3) := by decide +kernel
theorem d_M_figures_184 : decode b_M_figures 184 = .ok (.i2d, 1) := by decide +kernel
theorem d_M_figures_185 : decode b_M_figures 185 = .ok (.invokevirtual 221, 3) := by decide +kernel
theorem d_M_figures_188 : decode b_M_figures 188 = .ok (.dstore 4, 2) := by decide +kernel
theorem d_M_figures_190 : decode b_M_figures 190 = .ok (.goto 141, 3) := by decide +kernel
theorem d_M_figures_193 : decode b_M_figures 193 = .ok (.iload_n 1, 1) := by decide +kernel
theorem d_M_figures_194 : decode b_M_figures 194 = .ok (.bipush 6, 2) := by decide +kernel
theorem d_M_figures_196 : decode b_M_figures 196 = .ok (.if_icmp .ge 103, 3) := by decide +kernel
theorem d_M_figures_199 : decode b_M_figures 199 = .ok (.aload_n 0, 1) := by decide +kernel
theorem d_M_figures_200 : decode b_M_figures 200 = .ok (.getfield 164, 3) := by decide +kernel
theorem d_M_figures_203 : decode b_M_figures 203 = .ok (.ifCond .le 12, 3) := by decide +kernel
theorem d_M_figures_206 : decode b_M_figures 206 = .ok (.aload_n 0, 1) := by decide +kernel
theorem d_M_figures_207 : decode b_M_figures 207 = .ok (.getfield 37, 3) := by decide +kernel
theorem d_M_figures_210 : decode b_M_figures 210 = .ok (.iconst 0, 1) := by decide +kernel
theorem d_M_figures_211 : decode b_M_figures 211 = .ok (.daload, 1) := by decide +kernel
theorem d_M_figures_212 : decode b_M_figures 212 = .ok (.goto 4, 3) := by decide +kernel
theorem d_M_figures_215 : decode b_M_figures 215 = .ok (.dconst 0, 1) := by decide +kernel
theorem d_M_figures_216 : decode b_M_figures 216 = .ok (.dstore 4, 2) := by decide +kernel
theorem d_M_figures_218 : decode b_M_figures 218 = .ok (.iconst 1, 1) := by decide +kernel
theorem d_M_figures_219 : decode b_M_figures 219 = .ok (.istore 6, 2) := by decide +kernel
theorem d_M_figures_221 : decode b_M_figures 221 = .ok (.iload 6, 2) := by decide +kernel
theorem d_M_figures_223 : decode b_M_figures 223 = .ok (.aload_n 0, 1) := by decide +kernel
theorem d_M_figures_224 : decode b_M_figures 224 = .ok (.getfield 164, 3) := by decide +kernel
theorem d_M_figures_227 : decode b_M_figures 227 = .ok (.if_icmp .ge 69, 3) := by decide +kernel
theorem d_M_figures_230 : decode b_M_figures 230 = .ok (.iload_n 1, 1) := by decide +kernel
theorem d_M_figures_231 : decode b_M_figures 231 = .ok (.iconst 4, 1) := by decide +kernel
theorem d_M_figures_232 : decode b_M_figures 232 = .ok (.if_icmp .ne 31, 3) := by decide +kernel
theorem d_M_figures_235 : decode b_M_figures 235 = .ok (.aload_n 0, 1) := by decide +kernel
theorem d_M_figures_236 : decode b_M_figures 236 = .ok (.getfield 37, 3) := by decide +kernel
theorem d_M_figures_239 : decode b_M_figures 239 = .ok (.iload 6, 2) := by decide +kernel
theorem d_M_figures_241 : decode b_M_figures 241 = .ok (.daload, 1) := by decide +kernel
theorem d_M_figures_242 : decode b_M_figures 242 = .ok (.dload 4, 2) := by decide +kernel
theorem d_M_figures_244 : decode b_M_figures 244 = .ok (.dcmp .g, 1) := by decide +kernel
theorem d_M_figures_245 : decode b_M_figures 245 = .ok (.ifCond .ge 13, 3) := by decide +kernel
theorem d_M_figures_248 : decode b_M_figures 248 = .ok (.aload_n 0, 1) := by decide +kernel
theorem d_M_figures_249 : decode b_M_figures 249 = .ok (.getfield 37, 3) := by decide +kernel
theorem d_M_figures_252 : decode b_M_figures 252 = .ok (.iload 6, 2) := by decide +kernel
theorem d_M_figures_254 : decode b_M_figures 254 = .ok (.daload, 1) := by decide +kernel
theorem d_M_figures_255 : decode b_M_figures 255 = .ok (.goto 33, 3) := by decide +kernel
theorem d_M_figures_258 : decode b_M_figures 258 = .ok (.dload 4, 2) := by decide +kernel
theorem d_M_figures_260 : decode b_M_figures 260 = .ok (.goto 28, 3) := by decide +kernel
theorem d_M_figures_263 : decode b_M_figures 263 = .ok (.aload_n 0, 1) := by decide +kernel
theorem d_M_figures_264 : decode b_M_figures 264 = .ok (.getfield 37, 3) := by decide +kernel
theorem d_M_figures_267 : decode b_M_figures 267 = .ok (.iload 6, 2) := by decide +kernel
theorem d_M_figures_269 : decode b_M_figures 269 = .ok (.daload, 1) := by decide +kernel
theorem d_M_figures_270 : decode b_M_figures 270 = .ok (.dload 4, 2) := by decide +kernel
theorem d_M_figures_272 : decode b_M_figures 272 = .ok (.dcmp .l, 1) := by decide +kernel
theorem d_M_figures_273 : decode b_M_figures 273 = .ok (.ifCond .le 13, 3) := by decide +kernel
theorem d_M_figures_276 : decode b_M_figures 276 = .ok (.aload_n 0, 1) := by decide +kernel
theorem d_M_figures_277 : decode b_M_figures 277 = .ok (.getfield 37, 3) := by decide +kernel
theorem d_M_figures_280 : decode b_M_figures 280 = .ok (.iload 6, 2) := by decide +kernel
theorem d_M_figures_282 : decode b_M_figures 282 = .ok (.daload, 1) := by decide +kernel
theorem d_M_figures_283 : decode b_M_figures 283 = .ok (.goto 5, 3) := by decide +kernel
theorem d_M_figures_286 : decode b_M_figures 286 = .ok (.dload 4, 2) := by decide +kernel
theorem d_M_figures_288 : decode b_M_figures 288 = .ok (.dstore 4, 2) := by decide +kernel
theorem d_M_figures_290 : decode b_M_figures 290 = .ok (.iinc 6 1, 3) := by decide +kernel
theorem d_M_figures_293 : decode b_M_figures 293 = .ok (.goto (-72), 3) := by decide +kernel
theorem d_M_figures_296 : decode b_M_figures 296 = .ok (.goto 35, 3) := by decide +kernel
theorem d_M_figures_299 : decode b_M_figures 299 = .ok (.iload_n 1, 1) := by decide +kernel
theorem d_M_figures_300 : decode b_M_figures 300 = .ok (.bipush 9, 2) := by decide +kernel
theorem d_M_figures_302 : decode b_M_figures 302 = .ok (.if_icmp .ne 12, 3) := by decide +kernel
theorem d_M_figures_305 : decode b_M_figures 305 = .ok (.aload_n 0, 1) := by decide +kernel
theorem d_M_figures_306 : decode b_M_figures 306 = .ok (.invokevirtual 280, 3) := by decide +kernel
theorem d_M_figures_309 : decode b_M_figures 309 = .ok (.dstore 4, 2) := by decide +kernel
theorem d_M_figures_311 : decode b_M_figures 311 = .ok (.goto 20, 3) := by decide +kernel
theorem d_M_figures_314 : decode b_M_figures 314 = .ok (.aload_n 0, 1) := by decide +kernel
theorem d_M_figures_315 : decode b_M_figures 315 = .ok (.iload_n 1, 1) := by decide +kernel
theorem d_M_figures_316 : decode b_M_figures 316 = .ok (.bipush 14, 2) := by decide +kernel
theorem d_M_figures_318 : decode b_M_figures 318 = .ok (.if_icmp .ne 7, 3) := by decide +kernel
theorem d_M_figures_321 : decode b_M_figures 321 = .ok (.iconst 1, 1) := by decide +kernel
theorem d_M_figures_322 : decode b_M_figures 322 = .ok (.goto 4, 3) := by decide +kernel
theorem d_M_figures_325 : decode b_M_figures 325 = .ok (.iconst 0, 1) := by decide +kernel
theorem d_M_figures_326 : decode b_M_figures 326 = .ok (.invokevirtual 284, 3) := by decide +kernel
theorem d_M_figures_329 : decode b_M_figures 329 = .ok (.dstore 4, 2) := by decide +kernel
theorem d_M_figures_331 : decode b_M_figures 331 = .ok (.aload_n 0, 1) := by decide +kernel
theorem d_M_figures_332 : decode b_M_figures 332 = .ok (.dload 4, 2) := by decide +kernel
theorem d_M_figures_334 : decode b_M_figures 334 = .ok (.invokevirtual 207, 3) := by decide +kernel
theorem d_M_figures_337 : decode b_M_figures 337 = .ok (.return_, 1) := by decide +kernel
theorem p_M_figures_b331 (d : Nat)  (v0 : Option Nat) (v4 : UInt64) (h : gk_H) : gk_P gw_V (d + 6) y_M_figures b_M_figures 7 none [] (f_M_figures_b331  v0 v4 h) 331 [(0, va_rf v0), (4, .double v4)] [] h := by
  unfold f_M_figures_b331
  refine gk_aload_n (pc := 331) 0 d_M_figures_331 rfl ?_
  refine gk_dload (pc := 332) 1 d_M_figures_332 rfl ?_
  refine gk_callV (pc := 334) (d := (d + 5)) (w' := gv_V) (as := [.double v4]) (n := 1) 7 d_M_figures_334 rfl rfl rfl rfl (Nat.le_of_ble_eq_true rfl) tw_1916 tw_1918 tw_38 tw_99 cw_M_answerNumber hy_M_answerNumber (Nat.le_of_ble_eq_true rfl) (p_M_answerNumber (d + 4) v0 v4 h) fun _ h1 => ?_
  exact gk_vret (pc := 337) rfl d_M_figures_337 rfl
theorem p_M_figures_b326 (d : Nat)  (v0 : Option Nat) (s0 : Option Nat) (s1 : Int32) (h : gk_H) : gk_P gw_V (d + 6) y_M_figures b_M_figures 7 none [] (f_M_figures_b326  v0 s0 s1 h) 326 [(0, va_rf v0)] [.int s1, va_rf s0] h := by
  unfold f_M_figures_b326
  refine gk_callV (pc := 326) (d := (d + 5)) (w' := gv_D) (as := [.int s1]) (n := 1) 7 d_M_figures_326 rfl rfl rfl rfl (Nat.le_of_ble_eq_true rfl) tw_1979 tw_1981 tw_51 tw_99 cw_M_variance hy_M_variance (Nat.le_of_ble_eq_true rfl) (p_M_variance (d + 2) s0 s1 h) fun x1 h1 => ?_
  refine gk_dstore (pc := 329) (L' := [(4, .double x1), (0, va_rf v0)]) d_M_figures_329 (Nat.le_of_ble_eq_true rfl) rfl ?_
  refine gk_weak [1, 0] (L' := [(0, va_rf v0), (4, .double x1)]) rfl ?_
  exact p_M_figures_b331 d v0 x1 h1
theorem p_M_figures_b288 (d : Nat) (b221 : Option Nat → Int32 → UInt64 → Int32 → gk_H → Option (Unit × gk_H)) (q221 : ∀ (v0 : Option Nat) (v1 : Int32) (v4 : UInt64) (v6 : Int32) (h : gk_H), gk_P gw_V (d + 6) y_M_figures b_M_figures 7 none [] (b221 v0 v1 v4 v6 h) 221 [(0, va_rf v0), (1, .int v1), (4, .double v4), (6, .int v6)] [] h) (v0 : Option Nat) (v1 : Int32) (v6 : Int32) (s0 : UInt64) (h : gk_H) : gk_P gw_V (d + 6) y_M_figures b_M_figures 7 none [] (f_M_figures_b288 b221 v0 v1 v6 s0 h) 288 [(0, va_rf v0), (1, .int v1), (6, .int v6)] [.double s0] h := by
  unfold f_M_figures_b288
  refine gk_dstore (pc := 288) (L' := [(4, .double s0), (0, va_rf v0), (1, .int v1), (6, .int v6)]) d_M_figures_288 (Nat.le_of_ble_eq_true rfl) rfl ?_
  refine gk_iincN (pc := 290) 3 (1 : Int32) (L' := fun x1 => [(6, .int x1), (4, .double s0), (0, va_rf v0), (1, .int v1)]) d_M_figures_290 rfl rfl (Nat.le_of_ble_eq_true rfl) (fun _ => rfl) fun x1 => ?_
  refine gk_goto (pc := 293) 221 d_M_figures_293 rfl ?_
  refine gk_weak [2, 3, 1, 0] (L' := [(0, va_rf v0), (1, .int v1), (4, .double s0), (6, .int x1)]) rfl ?_
  exact q221 v0 v1 s0 x1 h
theorem p_M_figures_b221 (d : Nat)  : ∀ (fu : Nat) (v0 : Option Nat) (v1 : Int32) (v4 : UInt64) (v6 : Int32) (h : gk_H), gk_P gw_V (d + 6) y_M_figures b_M_figures 7 none [] (f_M_figures_b221  fu v0 v1 v4 v6 h) 221 [(0, va_rf v0), (1, .int v1), (4, .double v4), (6, .int v6)] [] h := by
  intro fu
  induction fu with
  | zero => intros; exact gk_none
  | succ fu q221 =>
    intro v0 v1 v4 v6 h
    rw [f_M_figures_b221]
    refine gk_iload (pc := 221) 3 d_M_figures_221 rfl ?_
    refine gk_aload_n (pc := 223) 0 d_M_figures_223 rfl ?_
    refine gk_getI (pc := 224) 7 12 d_M_figures_224 rfl (Nat.le_of_ble_eq_true rfl) tw_1657 fun x1 => ?_
    refine gk_icmp_ge (pc := 227) 296 d_M_figures_227 rfl (fun _ => ?_) (fun _ => ?_)
    · refine gk_goto (pc := 296) 331 d_M_figures_296 rfl ?_
      refine gk_weak [0, 2] (L' := [(0, va_rf v0), (4, .double v4)]) rfl ?_
      exact p_M_figures_b331 d v0 v4 h
    · refine gk_iload_n (pc := 230) 1 d_M_figures_230 rfl ?_
      refine gk_iconst (pc := 231) (4 : Int32) d_M_figures_231 rfl ?_
      refine gk_icmp_ne (pc := 232) 263 d_M_figures_232 rfl (fun _ => ?_) (fun _ => ?_)
      · refine gk_aload_n (pc := 235) 0 d_M_figures_235 rfl ?_
        refine gk_getR (pc := 236) 7 13 d_M_figures_236 rfl (Nat.le_of_ble_eq_true rfl) tw_1658 fun x2 => ?_
        refine gk_iload (pc := 239) 3 d_M_figures_239 rfl ?_
        refine gk_dald (pc := 241) d_M_figures_241 fun x3 => ?_
        refine gk_dload (pc := 242) 2 d_M_figures_242 rfl ?_
        refine gk_dcmp (pc := 244) d_M_figures_244 ?_
        refine gk_if_ge (pc := 245) 258 d_M_figures_245 rfl (fun _ => ?_) (fun _ => ?_)
        · refine gk_dload (pc := 258) 2 d_M_figures_258 rfl ?_
          refine gk_goto (pc := 260) 288 d_M_figures_260 rfl ?_
          refine gk_weak [0, 1, 3] (L' := [(0, va_rf v0), (1, .int v1), (6, .int v6)]) rfl ?_
          exact p_M_figures_b288 d (f_M_figures_b221 fu) q221 v0 v1 v6 v4 h
        · refine gk_aload_n (pc := 248) 0 d_M_figures_248 rfl ?_
          refine gk_getR (pc := 249) 7 13 d_M_figures_249 rfl (Nat.le_of_ble_eq_true rfl) tw_1658 fun x4 => ?_
          refine gk_iload (pc := 252) 3 d_M_figures_252 rfl ?_
          refine gk_dald (pc := 254) d_M_figures_254 fun x5 => ?_
          refine gk_goto (pc := 255) 288 d_M_figures_255 rfl ?_
          refine gk_weak [0, 1, 3] (L' := [(0, va_rf v0), (1, .int v1), (6, .int v6)]) rfl ?_
          exact p_M_figures_b288 d (f_M_figures_b221 fu) q221 v0 v1 v6 x5 h
      · refine gk_aload_n (pc := 263) 0 d_M_figures_263 rfl ?_
        refine gk_getR (pc := 264) 7 13 d_M_figures_264 rfl (Nat.le_of_ble_eq_true rfl) tw_1658 fun x6 => ?_
        refine gk_iload (pc := 267) 3 d_M_figures_267 rfl ?_
        refine gk_dald (pc := 269) d_M_figures_269 fun x7 => ?_
        refine gk_dload (pc := 270) 2 d_M_figures_270 rfl ?_
        refine gk_dcmp (pc := 272) d_M_figures_272 ?_
        refine gk_if_le (pc := 273) 286 d_M_figures_273 rfl (fun _ => ?_) (fun _ => ?_)
        · refine gk_dload (pc := 286) 2 d_M_figures_286 rfl ?_
          refine gk_weak [0, 1, 3] (L' := [(0, va_rf v0), (1, .int v1), (6, .int v6)]) rfl ?_
          exact p_M_figures_b288 d (f_M_figures_b221 fu) q221 v0 v1 v6 v4 h
        · refine gk_aload_n (pc := 276) 0 d_M_figures_276 rfl ?_
          refine gk_getR (pc := 277) 7 13 d_M_figures_277 rfl (Nat.le_of_ble_eq_true rfl) tw_1658 fun x8 => ?_
          refine gk_iload (pc := 280) 3 d_M_figures_280 rfl ?_
          refine gk_dald (pc := 282) d_M_figures_282 fun x9 => ?_
          refine gk_goto (pc := 283) 288 d_M_figures_283 rfl ?_
          refine gk_weak [0, 1, 3] (L' := [(0, va_rf v0), (1, .int v1), (6, .int v6)]) rfl ?_
          exact p_M_figures_b288 d (f_M_figures_b221 fu) q221 v0 v1 v6 x9 h
theorem p_M_figures_b216 (d : Nat)  (v0 : Option Nat) (v1 : Int32) (s0 : UInt64) (h : gk_H) : gk_P gw_V (d + 6) y_M_figures b_M_figures 7 none [] (f_M_figures_b216  v0 v1 s0 h) 216 [(0, va_rf v0), (1, .int v1)] [.double s0] h := by
  unfold f_M_figures_b216
  refine gk_dstore (pc := 216) (L' := [(4, .double s0), (0, va_rf v0), (1, .int v1)]) d_M_figures_216 (Nat.le_of_ble_eq_true rfl) rfl ?_
  refine gk_iconst (pc := 218) (1 : Int32) d_M_figures_218 rfl ?_
  refine gk_istore (pc := 219) (L' := [(6, .int (1 : Int32)), (4, .double s0), (0, va_rf v0), (1, .int v1)]) d_M_figures_219 (Nat.le_of_ble_eq_true rfl) rfl ?_
  refine gk_weak [2, 3, 1, 0] (L' := [(0, va_rf v0), (1, .int v1), (4, .double s0), (6, .int (1 : Int32))]) rfl ?_
  exact p_M_figures_b221 d gk_F v0 v1 s0 (1 : Int32) h
theorem p_M_figures_b165 (d : Nat)  (v0 : Option Nat) (v1 : Int32) (v4 : UInt64) (h : gk_H) : gk_P gw_V (d + 6) y_M_figures b_M_figures 7 none [] (f_M_figures_b165  v0 v1 v4 h) 165 [(0, va_rf v0), (1, .int v1), (4, .double v4)] [] h := by
  unfold f_M_figures_b165
  refine gk_aload_n (pc := 165) 0 d_M_figures_165 rfl ?_
  refine gk_getI (pc := 166) 7 11 d_M_figures_166 rfl (Nat.le_of_ble_eq_true rfl) tw_1656 fun x1 => ?_
  refine gk_if_ne (pc := 169) 331 d_M_figures_169 rfl (fun _ => ?_) (fun _ => ?_)
  · refine gk_iload_n (pc := 172) 1 d_M_figures_172 rfl ?_
    refine gk_iconst (pc := 173) (3 : Int32) d_M_figures_173 rfl ?_
    refine gk_icmp_ne (pc := 174) 331 d_M_figures_174 rfl (fun _ => ?_) (fun _ => ?_)
    · refine gk_aload_n (pc := 177) 0 d_M_figures_177 rfl ?_
      refine gk_dload (pc := 178) 2 d_M_figures_178 rfl ?_
      refine gk_aload_n (pc := 180) 0 d_M_figures_180 rfl ?_
      refine gk_getI (pc := 181) 7 12 d_M_figures_181 rfl (Nat.le_of_ble_eq_true rfl) tw_1657 fun x2 => ?_
      refine gk_i2d (pc := 184) d_M_figures_184 ?_
      refine gk_callV (pc := 185) (d := (d + 5)) (w' := gv_D) (as := [.double v4, .double (FP.i2d x2)]) (n := 2) 7 d_M_figures_185 rfl rfl rfl rfl (Nat.le_of_ble_eq_true rfl) tw_1912 tw_1914 tw_37 tw_99 cw_M_divide hy_M_divide (Nat.le_of_ble_eq_true rfl) (p_M_divide (d + 3) v0 v4 (FP.i2d x2) h) fun x3 h1 => ?_
      refine gk_dstore (pc := 188) (L' := [(4, .double x3), (0, va_rf v0), (1, .int v1)]) d_M_figures_188 (Nat.le_of_ble_eq_true rfl) rfl ?_
      refine gk_goto (pc := 190) 331 d_M_figures_190 rfl ?_
      refine gk_weak [1, 0] (L' := [(0, va_rf v0), (4, .double x3)]) rfl ?_
      exact p_M_figures_b331 d v0 x3 h1
    · refine gk_weak [0, 2] (L' := [(0, va_rf v0), (4, .double v4)]) rfl ?_
      exact p_M_figures_b331 d v0 v4 h
  · refine gk_weak [0, 2] (L' := [(0, va_rf v0), (4, .double v4)]) rfl ?_
    exact p_M_figures_b331 d v0 v4 h
theorem p_M_figures_b157 (d : Nat) (b84 : Option Nat → Int32 → UInt64 → Int32 → gk_H → Option (Unit × gk_H)) (q84 : ∀ (v0 : Option Nat) (v1 : Int32) (v4 : UInt64) (v6 : Int32) (h : gk_H), gk_P gw_V (d + 6) y_M_figures b_M_figures 7 none [] (b84 v0 v1 v4 v6 h) 84 [(0, va_rf v0), (1, .int v1), (4, .double v4), (6, .int v6)] [] h) (v0 : Option Nat) (v1 : Int32) (v6 : Int32) (s0 : UInt64) (h : gk_H) : gk_P gw_V (d + 6) y_M_figures b_M_figures 7 none [] (f_M_figures_b157 b84 v0 v1 v6 s0 h) 157 [(0, va_rf v0), (1, .int v1), (6, .int v6)] [.double s0] h := by
  unfold f_M_figures_b157
  refine gk_dstore (pc := 157) (L' := [(4, .double s0), (0, va_rf v0), (1, .int v1), (6, .int v6)]) d_M_figures_157 (Nat.le_of_ble_eq_true rfl) rfl ?_
  refine gk_iincN (pc := 159) 3 (1 : Int32) (L' := fun x1 => [(6, .int x1), (4, .double s0), (0, va_rf v0), (1, .int v1)]) d_M_figures_159 rfl rfl (Nat.le_of_ble_eq_true rfl) (fun _ => rfl) fun x1 => ?_
  refine gk_goto (pc := 162) 84 d_M_figures_162 rfl ?_
  refine gk_weak [2, 3, 1, 0] (L' := [(0, va_rf v0), (1, .int v1), (4, .double s0), (6, .int x1)]) rfl ?_
  exact q84 v0 v1 s0 x1 h
theorem p_M_figures_b84 (d : Nat)  : ∀ (fu : Nat) (v0 : Option Nat) (v1 : Int32) (v4 : UInt64) (v6 : Int32) (h : gk_H), gk_P gw_V (d + 6) y_M_figures b_M_figures 7 none [] (f_M_figures_b84  fu v0 v1 v4 v6 h) 84 [(0, va_rf v0), (1, .int v1), (4, .double v4), (6, .int v6)] [] h := by
  intro fu
  induction fu with
  | zero => intros; exact gk_none
  | succ fu q84 =>
    intro v0 v1 v4 v6 h
    rw [f_M_figures_b84]
    refine gk_iload (pc := 84) 3 d_M_figures_84 rfl ?_
    refine gk_aload_n (pc := 86) 0 d_M_figures_86 rfl ?_
    refine gk_getI (pc := 87) 7 12 d_M_figures_87 rfl (Nat.le_of_ble_eq_true rfl) tw_1657 fun x1 => ?_
    refine gk_icmp_ge (pc := 90) 165 d_M_figures_90 rfl (fun _ => ?_) (fun _ => ?_)
    · refine gk_weak [0, 1, 2] (L' := [(0, va_rf v0), (1, .int v1), (4, .double v4)]) rfl ?_
      exact p_M_figures_b165 d v0 v1 v4 h
    · refine gk_aload_n (pc := 93) 0 d_M_figures_93 rfl ?_
      refine gk_getI (pc := 94) 7 11 d_M_figures_94 rfl (Nat.le_of_ble_eq_true rfl) tw_1656 fun x2 => ?_
      refine gk_if_ne (pc := 97) 165 d_M_figures_97 rfl (fun _ => ?_) (fun _ => ?_)
      · refine gk_iload_n (pc := 100) 1 d_M_figures_100 rfl ?_
        refine gk_iconst (pc := 101) (1 : Int32) d_M_figures_101 rfl ?_
        refine gk_icmp_ne (pc := 102) 122 d_M_figures_102 rfl (fun _ => ?_) (fun _ => ?_)
        · refine gk_aload_n (pc := 105) 0 d_M_figures_105 rfl ?_
          refine gk_dload (pc := 106) 2 d_M_figures_106 rfl ?_
          refine gk_aload_n (pc := 108) 0 d_M_figures_108 rfl ?_
          refine gk_getR (pc := 109) 7 13 d_M_figures_109 rfl (Nat.le_of_ble_eq_true rfl) tw_1658 fun x3 => ?_
          refine gk_iload (pc := 112) 3 d_M_figures_112 rfl ?_
          refine gk_dald (pc := 114) d_M_figures_114 fun x4 => ?_
          refine gk_dmulN (pc := 115) d_M_figures_115 fun x5 => ?_
          refine gk_callV (pc := 116) (d := (d + 5)) (w' := gv_D) (as := [.double x5]) (n := 1) 7 d_M_figures_116 rfl rfl rfl rfl (Nat.le_of_ble_eq_true rfl) tw_1903 tw_1905 tw_36 tw_99 cw_M_step hy_M_step (Nat.le_of_ble_eq_true rfl) (p_M_step (d + 4) v0 x5 h) fun x6 h1 => ?_
          refine gk_goto (pc := 119) 157 d_M_figures_119 rfl ?_
          refine gk_weak [0, 1, 3] (L' := [(0, va_rf v0), (1, .int v1), (6, .int v6)]) rfl ?_
          exact p_M_figures_b157 d (f_M_figures_b84 fu) q84 v0 v1 v6 x6 h1
        · refine gk_iload_n (pc := 122) 1 d_M_figures_122 rfl ?_
          refine gk_iconst (pc := 123) (2 : Int32) d_M_figures_123 rfl ?_
          refine gk_icmp_ne (pc := 124) 143 d_M_figures_124 rfl (fun _ => ?_) (fun _ => ?_)
          · refine gk_aload_n (pc := 127) 0 d_M_figures_127 rfl ?_
            refine gk_dload (pc := 128) 2 d_M_figures_128 rfl ?_
            refine gk_aload_n (pc := 130) 0 d_M_figures_130 rfl ?_
            refine gk_getR (pc := 131) 7 13 d_M_figures_131 rfl (Nat.le_of_ble_eq_true rfl) tw_1658 fun x7 => ?_
            refine gk_iload (pc := 134) 3 d_M_figures_134 rfl ?_
            refine gk_dald (pc := 136) d_M_figures_136 fun x8 => ?_
            refine gk_callV (pc := 137) (d := (d + 5)) (w' := gv_D) (as := [.double v4, .double x8]) (n := 2) 7 d_M_figures_137 rfl rfl rfl rfl (Nat.le_of_ble_eq_true rfl) tw_1970 tw_1972 tw_49 tw_99 cw_M_addSquare hy_M_addSquare (Nat.le_of_ble_eq_true rfl) (p_M_addSquare (d + 3) v0 v4 x8 h) fun x9 h2 => ?_
            refine gk_goto (pc := 140) 157 d_M_figures_140 rfl ?_
            refine gk_weak [0, 1, 3] (L' := [(0, va_rf v0), (1, .int v1), (6, .int v6)]) rfl ?_
            exact p_M_figures_b157 d (f_M_figures_b84 fu) q84 v0 v1 v6 x9 h2
          · refine gk_aload_n (pc := 143) 0 d_M_figures_143 rfl ?_
            refine gk_dload (pc := 144) 2 d_M_figures_144 rfl ?_
            refine gk_aload_n (pc := 146) 0 d_M_figures_146 rfl ?_
            refine gk_getR (pc := 147) 7 13 d_M_figures_147 rfl (Nat.le_of_ble_eq_true rfl) tw_1658 fun x10 => ?_
            refine gk_iload (pc := 150) 3 d_M_figures_150 rfl ?_
            refine gk_dald (pc := 152) d_M_figures_152 fun x11 => ?_
            refine gk_daddN (pc := 153) d_M_figures_153 fun x12 => ?_
            refine gk_callV (pc := 154) (d := (d + 5)) (w' := gv_D) (as := [.double x12]) (n := 1) 7 d_M_figures_154 rfl rfl rfl rfl (Nat.le_of_ble_eq_true rfl) tw_1903 tw_1905 tw_36 tw_99 cw_M_step hy_M_step (Nat.le_of_ble_eq_true rfl) (p_M_step (d + 4) v0 x12 h) fun x13 h3 => ?_
            refine gk_weak [0, 1, 3] (L' := [(0, va_rf v0), (1, .int v1), (6, .int v6)]) rfl ?_
            exact p_M_figures_b157 d (f_M_figures_b84 fu) q84 v0 v1 v6 x13 h3
      · refine gk_weak [0, 1, 2] (L' := [(0, va_rf v0), (1, .int v1), (4, .double v4)]) rfl ?_
        exact p_M_figures_b165 d v0 v1 v4 h
theorem p_M_figures_b74 (d : Nat)  (v0 : Option Nat) (v1 : Int32) (s0 : UInt64) (h : gk_H) : gk_P gw_V (d + 6) y_M_figures b_M_figures 7 none [] (f_M_figures_b74  v0 v1 s0 h) 74 [(0, va_rf v0), (1, .int v1)] [.double s0] h := by
  unfold f_M_figures_b74
  refine gk_dstore (pc := 74) (L' := [(4, .double s0), (0, va_rf v0), (1, .int v1)]) d_M_figures_74 (Nat.le_of_ble_eq_true rfl) rfl ?_
  refine gk_iload_n (pc := 76) 2 d_M_figures_76 rfl ?_
  refine gk_iconst (pc := 77) (4 : Int32) d_M_figures_77 rfl ?_
  refine gk_icmp_ge (pc := 78) 193 d_M_figures_78 rfl (fun _ => ?_) (fun _ => ?_)
  · refine gk_iload_n (pc := 193) 2 d_M_figures_193 rfl ?_
    refine gk_bipush (pc := 194) (6 : Int32) d_M_figures_194 rfl ?_
    refine gk_icmp_ge (pc := 196) 299 d_M_figures_196 rfl (fun _ => ?_) (fun _ => ?_)
    · refine gk_iload_n (pc := 299) 2 d_M_figures_299 rfl ?_
      refine gk_bipush (pc := 300) (9 : Int32) d_M_figures_300 rfl ?_
      refine gk_icmp_ne (pc := 302) 314 d_M_figures_302 rfl (fun _ => ?_) (fun _ => ?_)
      · refine gk_aload_n (pc := 305) 1 d_M_figures_305 rfl ?_
        refine gk_callV (pc := 306) (d := (d + 5)) (w' := gv_D) (as := []) (n := 0) 7 d_M_figures_306 rfl rfl rfl rfl (Nat.le_of_ble_eq_true rfl) tw_1974 tw_1976 tw_50 tw_99 cw_M_median hy_M_median (Nat.le_of_ble_eq_true rfl) (p_M_median (d + 3) v0 h) fun x1 h1 => ?_
        refine gk_dstore (pc := 309) (L' := [(4, .double x1), (0, va_rf v0), (1, .int v1)]) d_M_figures_309 (Nat.le_of_ble_eq_true rfl) rfl ?_
        refine gk_goto (pc := 311) 331 d_M_figures_311 rfl ?_
        refine gk_weak [1, 0] (L' := [(0, va_rf v0), (4, .double x1)]) rfl ?_
        exact p_M_figures_b331 d v0 x1 h1
      · refine gk_aload_n (pc := 314) 1 d_M_figures_314 rfl ?_
        refine gk_iload_n (pc := 315) 2 d_M_figures_315 rfl ?_
        refine gk_bipush (pc := 316) (14 : Int32) d_M_figures_316 rfl ?_
        refine gk_icmp_ne (pc := 318) 325 d_M_figures_318 rfl (fun _ => ?_) (fun _ => ?_)
        · refine gk_iconst (pc := 321) (1 : Int32) d_M_figures_321 rfl ?_
          refine gk_goto (pc := 322) 326 d_M_figures_322 rfl ?_
          refine gk_weak [1] (L' := [(0, va_rf v0)]) rfl ?_
          exact p_M_figures_b326 d v0 v0 (1 : Int32) h
        · refine gk_iconst (pc := 325) (0 : Int32) d_M_figures_325 rfl ?_
          refine gk_weak [1] (L' := [(0, va_rf v0)]) rfl ?_
          exact p_M_figures_b326 d v0 v0 (0 : Int32) h
    · refine gk_aload_n (pc := 199) 1 d_M_figures_199 rfl ?_
      refine gk_getI (pc := 200) 7 12 d_M_figures_200 rfl (Nat.le_of_ble_eq_true rfl) tw_1657 fun x2 => ?_
      refine gk_if_le (pc := 203) 215 d_M_figures_203 rfl (fun _ => ?_) (fun _ => ?_)
      · refine gk_dconst0 (pc := 215) d_M_figures_215 ?_
        refine gk_weak [1, 2] (L' := [(0, va_rf v0), (1, .int v1)]) rfl ?_
        exact p_M_figures_b216 d v0 v1 (0x0000000000000000) h
      · refine gk_aload_n (pc := 206) 1 d_M_figures_206 rfl ?_
        refine gk_getR (pc := 207) 7 13 d_M_figures_207 rfl (Nat.le_of_ble_eq_true rfl) tw_1658 fun x3 => ?_
        refine gk_iconst (pc := 210) (0 : Int32) d_M_figures_210 rfl ?_
        refine gk_dald (pc := 211) d_M_figures_211 fun x4 => ?_
        refine gk_goto (pc := 212) 216 d_M_figures_212 rfl ?_
        refine gk_weak [1, 2] (L' := [(0, va_rf v0), (1, .int v1)]) rfl ?_
        exact p_M_figures_b216 d v0 v1 x4 h
  · refine gk_iconst (pc := 81) (0 : Int32) d_M_figures_81 rfl ?_
    refine gk_istore (pc := 82) (L' := [(6, .int (0 : Int32)), (4, .double s0), (0, va_rf v0), (1, .int v1)]) d_M_figures_82 (Nat.le_of_ble_eq_true rfl) rfl ?_
    refine gk_weak [2, 3, 1, 0] (L' := [(0, va_rf v0), (1, .int v1), (4, .double s0), (6, .int (0 : Int32))]) rfl ?_
    exact p_M_figures_b84 d gk_F v0 v1 s0 (0 : Int32) h
theorem p_M_figures_b73 (d : Nat)  (v0 : Option Nat) (v1 : Int32) (h : gk_H) : gk_P gw_V (d + 6) y_M_figures b_M_figures 7 none [] (f_M_figures_b73  v0 v1 h) 73 [(0, va_rf v0), (1, .int v1)] [] h := by
  unfold f_M_figures_b73
  refine gk_dconst0 (pc := 73) d_M_figures_73 ?_
  exact p_M_figures_b74 d v0 v1 (0x0000000000000000) h
theorem p_M_figures_b43 (d : Nat)  (v0 : Option Nat) (v1 : Int32) (v2 : Int32) (v3 : Int32) (h : gk_H) : gk_P gw_V (d + 6) y_M_figures b_M_figures 7 none [] (f_M_figures_b43  v0 v1 v2 v3 h) 43 [(0, va_rf v0), (1, .int v1), (2, .int v2), (3, .int v3)] [] h := by
  unfold f_M_figures_b43
  refine gk_aload_n (pc := 43) 0 d_M_figures_43 rfl ?_
  refine gk_iload_n (pc := 44) 2 d_M_figures_44 rfl ?_
  refine gk_iload_n (pc := 45) 3 d_M_figures_45 rfl ?_
  refine gk_callV (pc := 46) (d := (d + 5)) (w' := gv_V) (as := [.int v2, .int v3]) (n := 2) 7 d_M_figures_46 rfl rfl rfl rfl (Nat.le_of_ble_eq_true rfl) tw_1962 tw_1964 tw_47 tw_99 cw_M_wantRows hy_M_wantRows (Nat.le_of_ble_eq_true rfl) (p_M_wantRows d v0 v2 v3 h) fun _ h1 => ?_
  refine gk_aload_n (pc := 49) 0 d_M_figures_49 rfl ?_
  refine gk_getI (pc := 50) 7 11 d_M_figures_50 rfl (Nat.le_of_ble_eq_true rfl) tw_1656 fun x1 => ?_
  refine gk_if_le (pc := 53) 57 d_M_figures_53 rfl (fun _ => ?_) (fun _ => ?_)
  · refine gk_iload_n (pc := 57) 1 d_M_figures_57 rfl ?_
    refine gk_iconst (pc := 58) (1 : Int32) d_M_figures_58 rfl ?_
    refine gk_icmp_ne (pc := 59) 73 d_M_figures_59 rfl (fun _ => ?_) (fun _ => ?_)
    · refine gk_aload_n (pc := 62) 0 d_M_figures_62 rfl ?_
      refine gk_getI (pc := 63) 7 12 d_M_figures_63 rfl (Nat.le_of_ble_eq_true rfl) tw_1657 fun x2 => ?_
      refine gk_if_le (pc := 66) 73 d_M_figures_66 rfl (fun _ => ?_) (fun _ => ?_)
      · refine gk_weak [0, 1] (L' := [(0, va_rf v0), (1, .int v1)]) rfl ?_
        exact p_M_figures_b73 d v0 v1 h1
      · refine gk_dconst1 (pc := 69) d_M_figures_69 ?_
        refine gk_goto (pc := 70) 74 d_M_figures_70 rfl ?_
        refine gk_weak [0, 1] (L' := [(0, va_rf v0), (1, .int v1)]) rfl ?_
        exact p_M_figures_b74 d v0 v1 (0x3ff0000000000000) h1
    · refine gk_weak [0, 1] (L' := [(0, va_rf v0), (1, .int v1)]) rfl ?_
      exact p_M_figures_b73 d v0 v1 h1
  · exact gk_vret (pc := 56) rfl d_M_figures_56 rfl
theorem p_M_figures_b24 (d : Nat)  (v0 : Option Nat) (v1 : Int32) (v2 : Int32) (v3 : Int32) (h : gk_H) : gk_P gw_V (d + 6) y_M_figures b_M_figures 7 none [] (f_M_figures_b24  v0 v1 v2 v3 h) 24 [(0, va_rf v0), (1, .int v1), (2, .int v2), (3, .int v3)] [] h := by
  unfold f_M_figures_b24
  refine gk_iload_n (pc := 24) 1 d_M_figures_24 rfl ?_
  refine gk_bipush (pc := 25) (9 : Int32) d_M_figures_25 rfl ?_
  refine gk_icmp_le (pc := 27) 43 d_M_figures_27 rfl (fun _ => ?_) (fun _ => ?_)
  · exact p_M_figures_b43 d v0 v1 v2 v3 h
  · refine gk_iload_n (pc := 30) 1 d_M_figures_30 rfl ?_
    refine gk_bipush (pc := 31) (13 : Int32) d_M_figures_31 rfl ?_
    refine gk_icmp_ge (pc := 33) 43 d_M_figures_33 rfl (fun _ => ?_) (fun _ => ?_)
    · exact p_M_figures_b43 d v0 v1 v2 v3 h
    · refine gk_aload_n (pc := 36) 0 d_M_figures_36 rfl ?_
      refine gk_iload_n (pc := 37) 1 d_M_figures_37 rfl ?_
      refine gk_iload_n (pc := 38) 2 d_M_figures_38 rfl ?_
      refine gk_callV (pc := 39) (d := (d + 5)) (w' := gv_V) (as := [.int v1, .int v2]) (n := 2) 7 d_M_figures_39 rfl rfl rfl rfl (Nat.le_of_ble_eq_true rfl) tw_1942 tw_1944 tw_42 tw_99 cw_M_ranks hy_M_ranks (Nat.le_of_ble_eq_true rfl) (p_M_ranks d v0 v1 v2 h) fun _ h1 => ?_
      exact gk_vret (pc := 42) rfl d_M_figures_42 rfl
theorem w_M_figures (d : Nat) (a0 : Option Nat) (a1 : Int32) (a2 : Int32) (a3 : Int32) (h : gk_H) : gk_P gw_V (d + 6) y_M_figures b_M_figures 7 none [] (f_M_figures a0 a1 a2 a3 h) 0 [(0, va_rf a0), (1, .int a1), (2, .int a2), (3, .int a3)] [] h := by
  unfold f_M_figures
  refine gk_iload_n (pc := 0) 1 d_M_figures_0 rfl ?_
  refine gk_iconst (pc := 1) (5 : Int32) d_M_figures_1 rfl ?_
  refine gk_icmp_le (pc := 2) 24 d_M_figures_2 rfl (fun _ => ?_) (fun _ => ?_)
  · exact p_M_figures_b24 d a0 a1 a2 a3 h
  · refine gk_iload_n (pc := 5) 1 d_M_figures_5 rfl ?_
    refine gk_bipush (pc := 6) (9 : Int32) d_M_figures_6 rfl ?_
    refine gk_icmp_ge (pc := 8) 24 d_M_figures_8 rfl (fun _ => ?_) (fun _ => ?_)
    · exact p_M_figures_b24 d a0 a1 a2 a3 h
    · refine gk_aload_n (pc := 11) 0 d_M_figures_11 rfl ?_
      refine gk_aload_n (pc := 12) 0 d_M_figures_12 rfl ?_
      refine gk_iload_n (pc := 13) 1 d_M_figures_13 rfl ?_
      refine gk_iload_n (pc := 14) 2 d_M_figures_14 rfl ?_
      refine gk_iload_n (pc := 15) 3 d_M_figures_15 rfl ?_
      refine gk_callV (pc := 16) (d := (d + 5)) (w' := gv_I) (as := [.int a1, .int a2, .int a3]) (n := 3) 7 d_M_figures_16 rfl rfl rfl rfl (by simp [gk_cat_rf, gk_catI, gk_catJ, gk_catD, gv_V, gv_I, gv_J, gv_D, gv_R]) tw_1938 tw_1940 tw_41 tw_99 cw_M_howMany hy_M_howMany (Nat.le_of_ble_eq_true rfl) (p_M_howMany (d + 3) a0 a1 a2 a3 h) fun x1 h1 => ?_
      refine gk_i2d (pc := 19) d_M_figures_19 ?_
      refine gk_callV (pc := 20) (d := (d + 5)) (w' := gv_V) (as := [.double (FP.i2d x1)]) (n := 1) 7 d_M_figures_20 rfl rfl rfl rfl (Nat.le_of_ble_eq_true rfl) tw_1916 tw_1918 tw_38 tw_99 cw_M_answerNumber hy_M_answerNumber (Nat.le_of_ble_eq_true rfl) (p_M_answerNumber (d + 4) a0 (FP.i2d x1) h1) fun _ h2 => ?_
      exact gk_vret (pc := 23) rfl d_M_figures_23 rfl
theorem p_M_figures (d : Nat) (a0 : Option Nat) (a1 : Int32) (a2 : Int32) (a3 : Int32) (h : gk_H) : ∀ r h1, f_M_figures a0 a1 a2 a3 h = some (r, h1) → gk_M (d + 6) y_M_figures b_M_figures 7 none [va_rf a0, .int a1, .int a2, .int a3] h (.inl (gv_V r)) h1 :=
  fun r h1 e => gk_M_of2 (by decide +kernel) (by simp [lv_args, gk_cat_rf, gk_catI, gk_catJ, gk_catD, gv_V, gv_I, gv_J, gv_D, gv_R]) (by simp [lg_sl, gk_cat_rf, gk_catI, gk_catJ, gk_catD, gv_V, gv_I, gv_J, gv_D, gv_R]) (w_M_figures d a0 a1 a2 a3 h r h1 e)
theorem d_M_products_0 : decode b_M_products 0 = .ok (.aload_n 0, 1) := by decide +kernel
theorem d_M_products_1 : decode b_M_products 1 = .ok (.iconst 0, 1) := by decide +kernel
theorem d_M_products_2 : decode b_M_products 2 = .ok (.putfield 164, 3) := by decide +kernel
theorem d_M_products_5 : decode b_M_products 5 = .ok (.iload_n 1, 1) := by decide +kernel
theorem d_M_products_6 : decode b_M_products 6 = .ok (.istore_n 3, 1) := by decide +kernel
theorem d_M_products_7 : decode b_M_products 7 = .ok (.iload_n 3, 1) := by decide +kernel
theorem d_M_products_8 : decode b_M_products 8 = .ok (.iload_n 1, 1) := by decide +kernel
theorem d_M_products_9 : decode b_M_products 9 = .ok (.iload_n 2, 1) := by decide +kernel
theorem d_M_products_10 : decode b_M_products 10 = .ok (.iadd, 1) := by decide +kernel
theorem d_M_products_11 : decode b_M_products 11 = .ok (.if_icmp .ge 69, 3) := by decide +kernel
theorem d_M_products_14 : decode b_M_products 14 = .ok (.iconst 0, 1) := by decide +kernel
theorem d_M_products_15 : decode b_M_products 15 = .ok (.istore 4, 2) := by decide +kernel
theorem d_M_products_17 : decode b_M_products 17 = .ok (.iload 4, 2) := by decide +kernel
theorem d_M_products_19 : decode b_M_products 19 = .ok (.aload_n 0, 1) := by decide +kernel
theorem d_M_products_20 : decode b_M_products 20 = .ok (.getfield 17, 3) := by decide +kernel
theorem d_M_products_23 : decode b_M_products 23 = .ok (.iload_n 3, 1) := by decide +kernel
theorem d_M_products_24 : decode b_M_products 24 = .ok (.iaload, 1) := by decide +kernel
theorem d_M_products_25 : decode b_M_products 25 = .ok (.aload_n 0, 1) := by decide +kernel
theorem d_M_products_26 : decode b_M_products 26 = .ok (.getfield 20, 3) := by decide +kernel
theorem d_M_products_29 : decode b_M_products 29 = .ok (.iload_n 3, 1) := by decide +kernel
theorem d_M_products_30 : decode b_M_products 30 = .ok (.iaload, 1) := by decide +kernel
theorem d_M_products_31 : decode b_M_products 31 = .ok (.imul, 1) := by decide +kernel
theorem d_M_products_32 : decode b_M_products 32 = .ok (.if_icmp .ge 42, 3) := by decide +kernel
theorem d_M_products_35 : decode b_M_products 35 = .ok (.aload_n 0, 1) := by decide +kernel
theorem d_M_products_36 : decode b_M_products 36 = .ok (.getfield 23, 3) := by decide +kernel
theorem d_M_products_39 : decode b_M_products 39 = .ok (.bipush 16, 2) := by decide +kernel
theorem d_M_products_41 : decode b_M_products 41 = .ok (.iload_n 3, 1) := by decide +kernel
theorem d_M_products_42 : decode b_M_products 42 = .ok (.imul, 1) := by decide +kernel
theorem d_M_products_43 : decode b_M_products 43 = .ok (.iload 4, 2) := by decide +kernel
theorem d_M_products_45 : decode b_M_products 45 = .ok (.iadd, 1) := by decide +kernel
theorem d_M_products_46 : decode b_M_products 46 = .ok (.iaload, 1) := by decide +kernel
theorem d_M_products_47 : decode b_M_products 47 = .ok (.iconst 4, 1) := by decide +kernel
theorem d_M_products_48 : decode b_M_products 48 = .ok (.if_icmp .ne 20, 3) := by decide +kernel
theorem d_M_products_51 : decode b_M_products 51 = .ok (.aload_n 0, 1) := by decide +kernel
theorem d_M_products_52 : decode b_M_products 52 = .ok (.aload_n 0, 1) := by decide +kernel
theorem d_M_products_53 : decode b_M_products 53 = .ok (.getfield 26, 3) := by decide +kernel
theorem d_M_products_56 : decode b_M_products 56 = .ok (.bipush 16, 2) := by decide +kernel
theorem d_M_products_58 : decode b_M_products 58 = .ok (.iload_n 3, 1) := by decide +kernel
theorem d_M_products_59 : decode b_M_products 59 = .ok (.imul, 1) := by decide +kernel
theorem d_M_products_60 : decode b_M_products 60 = .ok (.iload 4, 2) := by decide +kernel
theorem d_M_products_62 : decode b_M_products 62 = .ok (.iadd, 1) := by decide +kernel
theorem d_M_products_63 : decode b_M_products 63 = .ok (.daload, 1) := by decide +kernel
theorem d_M_products_64 : decode b_M_products 64 = .ok (.d2i, 1) := by decide +kernel
theorem d_M_products_65 : decode b_M_products 65 = .ok (.invokevirtual 58, 3) := by decide +kernel
theorem d_M_products_68 : decode b_M_products 68 = .ok (.iinc 4 1, 3) := by decide +kernel
theorem d_M_products_71 : decode b_M_products 71 = .ok (.goto (-54), 3) := by decide +kernel
theorem d_M_products_74 : decode b_M_products 74 = .ok (.iinc 3 1, 3) := by decide +kernel
theorem d_M_products_77 : decode b_M_products 77 = .ok (.goto (-70), 3) := by decide +kernel
theorem d_M_products_80 : decode b_M_products 80 = .ok (.iload_n 1, 1) := by decide +kernel
theorem d_M_products_81 : decode b_M_products 81 = .ok (.iconst 1, 1) := by decide +kernel
theorem d_M_products_82 : decode b_M_products 82 = .ok (.iadd, 1) := by decide +kernel
theorem d_M_products_83 : decode b_M_products 83 = .ok (.istore_n 3, 1) := by decide +kernel
theorem d_M_products_84 : decode b_M_products 84 = .ok (.iload_n 3, 1) := by decide +kernel
theorem d_M_products_85 : decode b_M_products 85 = .ok (.iload_n 1, 1) := by decide +kernel
theorem d_M_products_86 : decode b_M_products 86 = .ok (.iload_n 2, 1) := by decide +kernel
theorem d_M_products_87 : decode b_M_products 87 = .ok (.iadd, 1) := by decide +kernel
theorem d_M_products_88 : decode b_M_products 88 = .ok (.if_icmp .ge 44, 3) := by decide +kernel
theorem d_M_products_91 : decode b_M_products 91 = .ok (.aload_n 0, 1) := by decide +kernel
theorem d_M_products_92 : decode b_M_products 92 = .ok (.getfield 17, 3) := by decide +kernel
theorem d_M_products_95 : decode b_M_products 95 = .ok (.iload_n 3, 1) := by decide +kernel
theorem d_M_products_96 : decode b_M_products 96 = .ok (.iaload, 1) := by decide +kernel
theorem d_M_products_97 : decode b_M_products 97 = .ok (.aload_n 0, 1) := by decide +kernel
theorem d_M_products_98 : decode b_M_products 98 = .ok (.getfield 17, 3) := by decide +kernel
theorem d_M_products_101 : decode b_M_products 101 = .ok (.iload_n 1, 1) := by decide +kernel
theorem d_M_products_102 : decode b_M_products 102 = .ok (.iaload, 1) := by decide +kernel
theorem d_M_products_103 : decode b_M_products 103 = .ok (.if_icmp .ne 18, 3) := by decide +kernel
theorem d_M_products_106 : decode b_M_products 106 = .ok (.aload_n 0, 1) := by decide +kernel
theorem d_M_products_107 : decode b_M_products 107 = .ok (.getfield 20, 3) := by decide +kernel
theorem d_M_products_110 : decode b_M_products 110 = .ok (.iload_n 3, 1) := by decide +kernel
theorem d_M_products_111 : decode b_M_products 111 = .ok (.iaload, 1) := by decide +kernel
theorem d_M_products_112 : decode b_M_products 112 = .ok (.aload_n 0, 1) := by decide +kernel
theorem d_M_products_113 : decode b_M_products 113 = .ok (.getfield 20, 3) := by decide +kernel
theorem d_M_products_116 : decode b_M_products 116 = .ok (.iload_n 1, 1) := by decide +kernel
theorem d_M_products_117 : decode b_M_products 117 = .ok (.iaload, 1) := by decide +kernel
theorem d_M_products_118 : decode b_M_products 118 = .ok (.if_icmp .eq 8, 3) := by decide +kernel
theorem d_M_products_121 : decode b_M_products 121 = .ok (.aload_n 0, 1) := by decide +kernel
theorem d_M_products_122 : decode b_M_products 122 = .ok (.iconst 3, 1) := by decide +kernel
theorem d_M_products_123 : decode b_M_products 123 = .ok (.invokevirtual 58, 3) := by decide +kernel
theorem d_M_products_126 : decode b_M_products 126 = .ok (.iinc 3 1, 3) := by decide +kernel
theorem d_M_products_129 : decode b_M_products 129 = .ok (.goto (-45), 3) := by decide +kernel
theorem d_M_products_132 : decode b_M_products 132 = .ok (.dconst 0, 1) := by decide +kernel
theorem d_M_products_133 : decode b_M_products 133 = .ok (.dstore_n 3, 1) := by decide +kernel
theorem d_M_products_134 : decode b_M_products 134 = .ok (.iconst 0, 1) := by decide +kernel
theorem d_M_products_135 : decode b_M_products 135 = .ok (.istore 5, 2) := by decide +kernel
theorem d_M_products_137 : decode b_M_products 137 = .ok (.iload 5, 2) := by decide +kernel
theorem d_M_products_139 : decode b_M_products 139 = .ok (.aload_n 0, 1) := by decide +kernel
theorem d_M_products_140 : decode b_M_products 140 = .ok (.getfield 17, 3) := by decide +kernel
theorem d_M_products_143 : decode b_M_products 143 = .ok (.iload_n 1, 1) := by decide +kernel
theorem d_M_products_144 : decode b_M_products 144 = .ok (.iaload, 1) := by decide +kernel
theorem d_M_products_145 : decode b_M_products 145 = .ok (.aload_n 0, 1) := by decide +kernel
theorem d_M_products_146 : decode b_M_products 146 = .ok (.getfield 20, 3) := by decide +kernel
theorem d_M_products_149 : decode b_M_products 149 = .ok (.iload_n 1, 1) := by decide +kernel
theorem d_M_products_150 : decode b_M_products 150 = .ok (.iaload, 1) := by decide +kernel
theorem d_M_products_151 : decode b_M_products 151 = .ok (.imul, 1) := by decide +kernel
theorem d_M_products_152 : decode b_M_products 152 = .ok (.if_icmp .ge 102, 3) := by decide +kernel
theorem d_M_products_155 : decode b_M_products 155 = .ok (.aload_n 0, 1) := by decide +kernel
theorem d_M_products_156 : decode b_M_products 156 = .ok (.getfield 62, 3) := by decide +kernel
theorem d_M_products_159 : decode b_M_products 159 = .ok (.ifCond .ne 95, 3) := by decide +kernel
theorem d_M_products_162 : decode b_M_products 162 = .ok (.dconst 1, 1) := by decide +kernel
theorem d_M_products_163 : decode b_M_products 163 = .ok (.dstore 6, 2) := by decide +kernel
theorem d_M_products_165 : decode b_M_products 165 = .ok (.iload_n 1, 1) := by decide +kernel
theorem d_M_products_166 : decode b_M_products 166 = .ok (.istore 8, 2) := by decide +kernel
theorem d_M_products_168 : decode b_M_products 168 = .ok (.iload 8, 2) := by decide +kernel
theorem d_M_products_170 : decode b_M_products 170 = .ok (.iload_n 1, 1) := by decide +kernel
theorem d_M_products_171 : decode b_M_products 171 = .ok (.iload_n 2, 1) := by decide +kernel
theorem d_M_products_172 : decode b_M_products 172 = .ok (.iadd, 1) := by decide +kernel
theorem d_M_products_173 : decode b_M_products 173 = .ok (.if_icmp .ge 59, 3) := by decide +kernel
theorem d_M_products_176 : decode b_M_products 176 = .ok (.aload_n 0, 1) := by decide +kernel
theorem d_M_products_177 : decode b_M_products 177 = .ok (.getfield 62, 3) := by decide +kernel
theorem d_M_products_180 : decode b_M_products 180 = .ok (.ifCond .ne 52, 3) := by decide +kernel
theorem d_M_products_183 : decode b_M_products 183 = .ok (.aload_n 0, 1) := by decide +kernel
theorem d_M_products_184 : decode b_M_products 184 = .ok (.dload 6, 2) := by decide +kernel
theorem d_M_products_186 : decode b_M_products 186 = .ok (.aload_n 0, 1) := by decide +kernel
theorem d_M_products_187 : decode b_M_products 187 = .ok (.getfield 23, 3) := by decide +kernel
theorem d_M_products_190 : decode b_M_products 190 = .ok (.bipush 16, 2) := by decide +kernel
theorem d_M_products_192 : decode b_M_products 192 = .ok (.iload 8, 2) := by decide +kernel
theorem d_M_products_194 : decode b_M_products 194 = .ok (.imul, 1) := by decide +kernel
theorem d_M_products_195 : decode b_M_products 195 = .ok (.iload 5, 2) := by decide +kernel
theorem d_M_products_197 : decode b_M_products 197 = .ok (.iadd, 1) := by decide +kernel
theorem d_M_products_198 : decode b_M_products 198 = .ok (.iaload, 1) := by decide +kernel
theorem d_M_products_199 : decode b_M_products 199 = .ok (.iconst 1, 1) := by decide +kernel
theorem d_M_products_200 : decode b_M_products 200 = .ok (.if_icmp .ne 19, 3) := by decide +kernel
theorem d_M_products_203 : decode b_M_products 203 = .ok (.aload_n 0, 1) := by decide +kernel
theorem d_M_products_204 : decode b_M_products 204 = .ok (.getfield 26, 3) := by decide +kernel
theorem d_M_products_207 : decode b_M_products 207 = .ok (.bipush 16, 2) := by decide +kernel
theorem d_M_products_209 : decode b_M_products 209 = .ok (.iload 8, 2) := by decide +kernel
theorem d_M_products_211 : decode b_M_products 211 = .ok (.imul, 1) := by decide +kernel
theorem d_M_products_212 : decode b_M_products 212 = .ok (.iload 5, 2) := by decide +kernel
theorem d_M_products_214 : decode b_M_products 214 = .ok (.iadd, 1) := by decide +kernel
theorem d_M_products_215 : decode b_M_products 215 = .ok (.daload, 1) := by decide +kernel
theorem d_M_products_216 : decode b_M_products 216 = .ok (.goto 4, 3) := by decide +kernel
theorem d_M_products_219 : decode b_M_products 219 = .ok (.dconst 0, 1) := by decide +kernel
theorem d_M_products_220 : decode b_M_products 220 = .ok (.dmul, 1) := by decide +kernel
theorem d_M_products_221 : decode b_M_products 221 = .ok (.invokevirtual 217, 3) := by decide +kernel
theorem d_M_products_224 : decode b_M_products 224 = .ok (.dstore 6, 2) := by decide +kernel
theorem d_M_products_226 : decode b_M_products 226 = .ok (.iinc 8 1, 3) := by decide +kernel
theorem d_M_products_229 : decode b_M_products 229 = .ok (.goto (-61), 3) := by decide +kernel
theorem d_M_products_232 : decode b_M_products 232 = .ok (.aload_n 0, 1) := by decide +kernel
theorem d_M_products_233 : decode b_M_products 233 = .ok (.getfield 62, 3) := by decide +kernel
theorem d_M_products_236 : decode b_M_products 236 = .ok (.ifCond .ne 12, 3) := by decide +kernel
theorem d_M_products_239 : decode b_M_products 239 = .ok (.aload_n 0, 1) := by decide +kernel
theorem d_M_products_240 : decode b_M_products 240 = .ok (.dload_n 3, 1) := by decide +kernel
theorem d_M_products_241 : decode b_M_products 241 = .ok (.dload 6, 2) := by decide +kernel
theorem d_M_products_243 : decode b_M_products 243 = .ok (.dadd, 1) := by decide +kernel
theorem d_M_products_244 : decode b_M_products 244 = .ok (.invokevirtual 217, 3) := by decide +kernel
theorem d_M_products_247 : decode b_M_products 247 = .ok (.dstore_n 3, 1) := by decide +kernel
theorem d_M_products_248 : decode b_M_products 248 = .ok (.iinc 5 1, 3) := by decide +kernel
theorem d_M_products_251 : decode b_M_products 251 = .ok (.goto (-114), 3) := by decide +kernel
theorem d_M_products_254 : decode b_M_products 254 = .ok (.aload_n 0, 1) := by decide +kernel
theorem d_M_products_255 : decode b_M_products 255 = .ok (.dload_n 3, 1) := by decide +kernel
theorem d_M_products_256 : decode b_M_products 256 = .ok (.invokevirtual 207, 3) := by decide +kernel
theorem d_M_products_259 : decode b_M_products 259 = .ok (.return_, 1) := by decide +kernel
theorem p_M_products_b254 (d : Nat)  (v0 : Option Nat) (v3 : UInt64) (h : gk_H) : gk_P gw_V (d + 2) y_M_products b_M_products 9 none [] (f_M_products_b254  v0 v3 h) 254 [(0, va_rf v0), (3, .double v3)] [] h := by
  unfold f_M_products_b254
  refine gk_aload_n (pc := 254) 0 d_M_products_254 rfl ?_
  refine gk_dload_n (pc := 255) 1 d_M_products_255 rfl ?_
  refine gk_callV (pc := 256) (d := (d + 1)) (w' := gv_V) (as := [.double v3]) (n := 1) 7 d_M_products_256 rfl rfl rfl rfl (Nat.le_of_ble_eq_true rfl) tw_1916 tw_1918 tw_38 tw_99 cw_M_answerNumber hy_M_answerNumber (Nat.le_of_ble_eq_true rfl) (p_M_answerNumber d v0 v3 h) fun _ h1 => ?_
  exact gk_vret (pc := 259) rfl d_M_products_259 rfl
theorem p_M_products_b248 (d : Nat) (b137 : Option Nat → Int32 → Int32 → UInt64 → Int32 → gk_H → Option (Unit × gk_H)) (q137 : ∀ (v0 : Option Nat) (v1 : Int32) (v2 : Int32) (v3 : UInt64) (v5 : Int32) (h : gk_H), gk_P gw_V (d + 2) y_M_products b_M_products 9 none [] (b137 v0 v1 v2 v3 v5 h) 137 [(0, va_rf v0), (1, .int v1), (2, .int v2), (3, .double v3), (5, .int v5)] [] h) (v0 : Option Nat) (v1 : Int32) (v2 : Int32) (v3 : UInt64) (v5 : Int32) (h : gk_H) : gk_P gw_V (d + 2) y_M_products b_M_products 9 none [] (f_M_products_b248 b137 v0 v1 v2 v3 v5 h) 248 [(0, va_rf v0), (1, .int v1), (2, .int v2), (3, .double v3), (5, .int v5)] [] h := by
  unfold f_M_products_b248
  refine gk_iincN (pc := 248) 4 (1 : Int32) (L' := fun x1 => [(5, .int x1), (0, va_rf v0), (1, .int v1), (2, .int v2), (3, .double v3)]) d_M_products_248 rfl rfl (Nat.le_of_ble_eq_true rfl) (fun _ => rfl) fun x1 => ?_
  refine gk_goto (pc := 251) 137 d_M_products_251 rfl ?_
  refine gk_weak [1, 2, 3, 4, 0] (L' := [(0, va_rf v0), (1, .int v1), (2, .int v2), (3, .double v3), (5, .int x1)]) rfl ?_
  exact q137 v0 v1 v2 v3 x1 h
theorem p_M_products_b232 (d : Nat) (b137 : Option Nat → Int32 → Int32 → UInt64 → Int32 → gk_H → Option (Unit × gk_H)) (q137 : ∀ (v0 : Option Nat) (v1 : Int32) (v2 : Int32) (v3 : UInt64) (v5 : Int32) (h : gk_H), gk_P gw_V (d + 2) y_M_products b_M_products 9 none [] (b137 v0 v1 v2 v3 v5 h) 137 [(0, va_rf v0), (1, .int v1), (2, .int v2), (3, .double v3), (5, .int v5)] [] h) (v0 : Option Nat) (v1 : Int32) (v2 : Int32) (v3 : UInt64) (v5 : Int32) (v6 : UInt64) (h : gk_H) : gk_P gw_V (d + 2) y_M_products b_M_products 9 none [] (f_M_products_b232 b137 v0 v1 v2 v3 v5 v6 h) 232 [(0, va_rf v0), (1, .int v1), (2, .int v2), (3, .double v3), (5, .int v5), (6, .double v6)] [] h := by
  unfold f_M_products_b232
  refine gk_aload_n (pc := 232) 0 d_M_products_232 rfl ?_
  refine gk_getI (pc := 233) 7 11 d_M_products_233 rfl (Nat.le_of_ble_eq_true rfl) tw_1656 fun x1 => ?_
  refine gk_if_ne (pc := 236) 248 d_M_products_236 rfl (fun _ => ?_) (fun _ => ?_)
  · refine gk_aload_n (pc := 239) 0 d_M_products_239 rfl ?_
    refine gk_dload_n (pc := 240) 3 d_M_products_240 rfl ?_
    refine gk_dload (pc := 241) 5 d_M_products_241 rfl ?_
    refine gk_daddN (pc := 243) d_M_products_243 fun x2 => ?_
    refine gk_callV (pc := 244) (d := (d + 1)) (w' := gv_D) (as := [.double x2]) (n := 1) 7 d_M_products_244 rfl rfl rfl rfl (Nat.le_of_ble_eq_true rfl) tw_1903 tw_1905 tw_36 tw_99 cw_M_step hy_M_step (Nat.le_of_ble_eq_true rfl) (p_M_step d v0 x2 h) fun x3 h1 => ?_
    refine gk_dstore_n (pc := 247) (L' := [(3, .double x3), (0, va_rf v0), (1, .int v1), (2, .int v2), (5, .int v5), (6, .double v6)]) d_M_products_247 (Nat.le_of_ble_eq_true rfl) rfl ?_
    refine gk_weak [1, 2, 3, 0, 4] (L' := [(0, va_rf v0), (1, .int v1), (2, .int v2), (3, .double x3), (5, .int v5)]) rfl ?_
    exact p_M_products_b248 d b137 q137 v0 v1 v2 x3 v5 h1
  · refine gk_weak [0, 1, 2, 3, 4] (L' := [(0, va_rf v0), (1, .int v1), (2, .int v2), (3, .double v3), (5, .int v5)]) rfl ?_
    exact p_M_products_b248 d b137 q137 v0 v1 v2 v3 v5 h
theorem p_M_products_b220 (d : Nat) (b137 : Option Nat → Int32 → Int32 → UInt64 → Int32 → gk_H → Option (Unit × gk_H)) (q137 : ∀ (v0 : Option Nat) (v1 : Int32) (v2 : Int32) (v3 : UInt64) (v5 : Int32) (h : gk_H), gk_P gw_V (d + 2) y_M_products b_M_products 9 none [] (b137 v0 v1 v2 v3 v5 h) 137 [(0, va_rf v0), (1, .int v1), (2, .int v2), (3, .double v3), (5, .int v5)] [] h) (b168 : Option Nat → Int32 → Int32 → UInt64 → Int32 → UInt64 → Int32 → gk_H → Option (Unit × gk_H)) (q168 : ∀ (v0 : Option Nat) (v1 : Int32) (v2 : Int32) (v3 : UInt64) (v5 : Int32) (v6 : UInt64) (v8 : Int32) (h : gk_H), gk_P gw_V (d + 2) y_M_products b_M_products 9 none [] (b168 v0 v1 v2 v3 v5 v6 v8 h) 168 [(0, va_rf v0), (1, .int v1), (2, .int v2), (3, .double v3), (5, .int v5), (6, .double v6), (8, .int v8)] [] h) (v0 : Option Nat) (v1 : Int32) (v2 : Int32) (v3 : UInt64) (v5 : Int32) (v8 : Int32) (s0 : Option Nat) (s1 : UInt64) (s2 : UInt64) (h : gk_H) : gk_P gw_V (d + 2) y_M_products b_M_products 9 none [] (f_M_products_b220 b137 b168 v0 v1 v2 v3 v5 v8 s0 s1 s2 h) 220 [(0, va_rf v0), (1, .int v1), (2, .int v2), (3, .double v3), (5, .int v5), (8, .int v8)] [.double s2, .double s1, va_rf s0] h := by
  unfold f_M_products_b220
  refine gk_dmulN (pc := 220) d_M_products_220 fun x1 => ?_
  refine gk_callV (pc := 221) (d := (d + 1)) (w' := gv_D) (as := [.double x1]) (n := 1) 7 d_M_products_221 rfl rfl rfl rfl (Nat.le_of_ble_eq_true rfl) tw_1903 tw_1905 tw_36 tw_99 cw_M_step hy_M_step (Nat.le_of_ble_eq_true rfl) (p_M_step d s0 x1 h) fun x2 h1 => ?_
  refine gk_dstore (pc := 224) (L' := [(6, .double x2), (0, va_rf v0), (1, .int v1), (2, .int v2), (3, .double v3), (5, .int v5), (8, .int v8)]) d_M_products_224 (Nat.le_of_ble_eq_true rfl) rfl ?_
  refine gk_iincN (pc := 226) 6 (1 : Int32) (L' := fun x3 => [(8, .int x3), (6, .double x2), (0, va_rf v0), (1, .int v1), (2, .int v2), (3, .double v3), (5, .int v5)]) d_M_products_226 rfl rfl (Nat.le_of_ble_eq_true rfl) (fun _ => rfl) fun x3 => ?_
  refine gk_goto (pc := 229) 168 d_M_products_229 rfl ?_
  refine gk_weak [2, 3, 4, 5, 6, 1, 0] (L' := [(0, va_rf v0), (1, .int v1), (2, .int v2), (3, .double v3), (5, .int v5), (6, .double x2), (8, .int x3)]) rfl ?_
  exact q168 v0 v1 v2 v3 v5 x2 x3 h1
theorem p_M_products_b168 (d : Nat) (b137 : Option Nat → Int32 → Int32 → UInt64 → Int32 → gk_H → Option (Unit × gk_H)) (q137 : ∀ (v0 : Option Nat) (v1 : Int32) (v2 : Int32) (v3 : UInt64) (v5 : Int32) (h : gk_H), gk_P gw_V (d + 2) y_M_products b_M_products 9 none [] (b137 v0 v1 v2 v3 v5 h) 137 [(0, va_rf v0), (1, .int v1), (2, .int v2), (3, .double v3), (5, .int v5)] [] h) : ∀ (fu : Nat) (v0 : Option Nat) (v1 : Int32) (v2 : Int32) (v3 : UInt64) (v5 : Int32) (v6 : UInt64) (v8 : Int32) (h : gk_H), gk_P gw_V (d + 2) y_M_products b_M_products 9 none [] (f_M_products_b168 b137 fu v0 v1 v2 v3 v5 v6 v8 h) 168 [(0, va_rf v0), (1, .int v1), (2, .int v2), (3, .double v3), (5, .int v5), (6, .double v6), (8, .int v8)] [] h := by
  intro fu
  induction fu with
  | zero => intros; exact gk_none
  | succ fu q168 =>
    intro v0 v1 v2 v3 v5 v6 v8 h
    rw [f_M_products_b168]
    refine gk_iload (pc := 168) 6 d_M_products_168 rfl ?_
    refine gk_iload_n (pc := 170) 1 d_M_products_170 rfl ?_
    refine gk_iload_n (pc := 171) 2 d_M_products_171 rfl ?_
    refine gk_iadd (pc := 172) d_M_products_172 ?_
    refine gk_icmp_ge (pc := 173) 232 d_M_products_173 rfl (fun _ => ?_) (fun _ => ?_)
    · refine gk_weak [0, 1, 2, 3, 4, 5] (L' := [(0, va_rf v0), (1, .int v1), (2, .int v2), (3, .double v3), (5, .int v5), (6, .double v6)]) rfl ?_
      exact p_M_products_b232 d b137 q137 v0 v1 v2 v3 v5 v6 h
    · refine gk_aload_n (pc := 176) 0 d_M_products_176 rfl ?_
      refine gk_getI (pc := 177) 7 11 d_M_products_177 rfl (Nat.le_of_ble_eq_true rfl) tw_1656 fun x1 => ?_
      refine gk_if_ne (pc := 180) 232 d_M_products_180 rfl (fun _ => ?_) (fun _ => ?_)
      · refine gk_aload_n (pc := 183) 0 d_M_products_183 rfl ?_
        refine gk_dload (pc := 184) 5 d_M_products_184 rfl ?_
        refine gk_aload_n (pc := 186) 0 d_M_products_186 rfl ?_
        refine gk_getR (pc := 187) 7 7 d_M_products_187 rfl (Nat.le_of_ble_eq_true rfl) tw_1652 fun x2 => ?_
        refine gk_bipush (pc := 190) (16 : Int32) d_M_products_190 rfl ?_
        refine gk_iload (pc := 192) 6 d_M_products_192 rfl ?_
        refine gk_imul (pc := 194) d_M_products_194 ?_
        refine gk_iload (pc := 195) 4 d_M_products_195 rfl ?_
        refine gk_iadd (pc := 197) d_M_products_197 ?_
        refine gk_iald (pc := 198) d_M_products_198 fun x3 => ?_
        refine gk_iconst (pc := 199) (1 : Int32) d_M_products_199 rfl ?_
        refine gk_icmp_ne (pc := 200) 219 d_M_products_200 rfl (fun _ => ?_) (fun _ => ?_)
        · refine gk_aload_n (pc := 203) 0 d_M_products_203 rfl ?_
          refine gk_getR (pc := 204) 7 8 d_M_products_204 rfl (Nat.le_of_ble_eq_true rfl) tw_1653 fun x4 => ?_
          refine gk_bipush (pc := 207) (16 : Int32) d_M_products_207 rfl ?_
          refine gk_iload (pc := 209) 6 d_M_products_209 rfl ?_
          refine gk_imul (pc := 211) d_M_products_211 ?_
          refine gk_iload (pc := 212) 4 d_M_products_212 rfl ?_
          refine gk_iadd (pc := 214) d_M_products_214 ?_
          refine gk_dald (pc := 215) d_M_products_215 fun x5 => ?_
          refine gk_goto (pc := 216) 220 d_M_products_216 rfl ?_
          refine gk_weak [0, 1, 2, 3, 4, 6] (L' := [(0, va_rf v0), (1, .int v1), (2, .int v2), (3, .double v3), (5, .int v5), (8, .int v8)]) rfl ?_
          exact p_M_products_b220 d b137 q137 (f_M_products_b168 b137 fu) q168 v0 v1 v2 v3 v5 v8 v0 v6 x5 h
        · refine gk_dconst0 (pc := 219) d_M_products_219 ?_
          refine gk_weak [0, 1, 2, 3, 4, 6] (L' := [(0, va_rf v0), (1, .int v1), (2, .int v2), (3, .double v3), (5, .int v5), (8, .int v8)]) rfl ?_
          exact p_M_products_b220 d b137 q137 (f_M_products_b168 b137 fu) q168 v0 v1 v2 v3 v5 v8 v0 v6 (0x0000000000000000) h
      · refine gk_weak [0, 1, 2, 3, 4, 5] (L' := [(0, va_rf v0), (1, .int v1), (2, .int v2), (3, .double v3), (5, .int v5), (6, .double v6)]) rfl ?_
        exact p_M_products_b232 d b137 q137 v0 v1 v2 v3 v5 v6 h
theorem p_M_products_b137 (d : Nat)  : ∀ (fu : Nat) (v0 : Option Nat) (v1 : Int32) (v2 : Int32) (v3 : UInt64) (v5 : Int32) (h : gk_H), gk_P gw_V (d + 2) y_M_products b_M_products 9 none [] (f_M_products_b137  fu v0 v1 v2 v3 v5 h) 137 [(0, va_rf v0), (1, .int v1), (2, .int v2), (3, .double v3), (5, .int v5)] [] h := by
  intro fu
  induction fu with
  | zero => intros; exact gk_none
  | succ fu q137 =>
    intro v0 v1 v2 v3 v5 h
    rw [f_M_products_b137]
    refine gk_iload (pc := 137) 4 d_M_products_137 rfl ?_
    refine gk_aload_n (pc := 139) 0 d_M_products_139 rfl ?_
    refine gk_getR (pc := 140) 7 5 d_M_products_140 rfl (Nat.le_of_ble_eq_true rfl) tw_1650 fun x1 => ?_
    refine gk_iload_n (pc := 143) 1 d_M_products_143 rfl ?_
    refine gk_iald (pc := 144) d_M_products_144 fun x2 => ?_
    refine gk_aload_n (pc := 145) 0 d_M_products_145 rfl ?_
    refine gk_getR (pc := 146) 7 6 d_M_products_146 rfl (Nat.le_of_ble_eq_true rfl) tw_1651 fun x3 => ?_
    refine gk_iload_n (pc := 149) 1 d_M_products_149 rfl ?_
    refine gk_iald (pc := 150) d_M_products_150 fun x4 => ?_
    refine gk_imul (pc := 151) d_M_products_151 ?_
    refine gk_icmp_ge (pc := 152) 254 d_M_products_152 rfl (fun _ => ?_) (fun _ => ?_)
    · refine gk_weak [0, 3] (L' := [(0, va_rf v0), (3, .double v3)]) rfl ?_
      exact p_M_products_b254 d v0 v3 h
    · refine gk_aload_n (pc := 155) 0 d_M_products_155 rfl ?_
      refine gk_getI (pc := 156) 7 11 d_M_products_156 rfl (Nat.le_of_ble_eq_true rfl) tw_1656 fun x5 => ?_
      refine gk_if_ne (pc := 159) 254 d_M_products_159 rfl (fun _ => ?_) (fun _ => ?_)
      · refine gk_dconst1 (pc := 162) d_M_products_162 ?_
        refine gk_dstore (pc := 163) (L' := [(6, .double (0x3ff0000000000000)), (0, va_rf v0), (1, .int v1), (2, .int v2), (3, .double v3), (5, .int v5)]) d_M_products_163 (Nat.le_of_ble_eq_true rfl) rfl ?_
        refine gk_iload_n (pc := 165) 2 d_M_products_165 rfl ?_
        refine gk_istore (pc := 166) (L' := [(8, .int v1), (6, .double (0x3ff0000000000000)), (0, va_rf v0), (1, .int v1), (2, .int v2), (3, .double v3), (5, .int v5)]) d_M_products_166 (Nat.le_of_ble_eq_true rfl) rfl ?_
        refine gk_weak [2, 3, 4, 5, 6, 1, 0] (L' := [(0, va_rf v0), (1, .int v1), (2, .int v2), (3, .double v3), (5, .int v5), (6, .double (0x3ff0000000000000)), (8, .int v1)]) rfl ?_
        exact p_M_products_b168 d (f_M_products_b137 fu) q137 gk_F v0 v1 v2 v3 v5 (0x3ff0000000000000) v1 h
      · refine gk_weak [0, 3] (L' := [(0, va_rf v0), (3, .double v3)]) rfl ?_
        exact p_M_products_b254 d v0 v3 h
theorem p_M_products_b126 (d : Nat) (b84 : Option Nat → Int32 → Int32 → Int32 → gk_H → Option (Unit × gk_H)) (q84 : ∀ (v0 : Option Nat) (v1 : Int32) (v2 : Int32) (v3 : Int32) (h : gk_H), gk_P gw_V (d + 2) y_M_products b_M_products 9 none [] (b84 v0 v1 v2 v3 h) 84 [(0, va_rf v0), (1, .int v1), (2, .int v2), (3, .int v3)] [] h) (v0 : Option Nat) (v1 : Int32) (v2 : Int32) (v3 : Int32) (h : gk_H) : gk_P gw_V (d + 2) y_M_products b_M_products 9 none [] (f_M_products_b126 b84 v0 v1 v2 v3 h) 126 [(0, va_rf v0), (1, .int v1), (2, .int v2), (3, .int v3)] [] h := by
  unfold f_M_products_b126
  refine gk_iincN (pc := 126) 3 (1 : Int32) (L' := fun x1 => [(3, .int x1), (0, va_rf v0), (1, .int v1), (2, .int v2)]) d_M_products_126 rfl rfl (Nat.le_of_ble_eq_true rfl) (fun _ => rfl) fun x1 => ?_
  refine gk_goto (pc := 129) 84 d_M_products_129 rfl ?_
  refine gk_weak [1, 2, 3, 0] (L' := [(0, va_rf v0), (1, .int v1), (2, .int v2), (3, .int x1)]) rfl ?_
  exact q84 v0 v1 v2 x1 h
theorem p_M_products_b121 (d : Nat) (b84 : Option Nat → Int32 → Int32 → Int32 → gk_H → Option (Unit × gk_H)) (q84 : ∀ (v0 : Option Nat) (v1 : Int32) (v2 : Int32) (v3 : Int32) (h : gk_H), gk_P gw_V (d + 2) y_M_products b_M_products 9 none [] (b84 v0 v1 v2 v3 h) 84 [(0, va_rf v0), (1, .int v1), (2, .int v2), (3, .int v3)] [] h) (v0 : Option Nat) (v1 : Int32) (v2 : Int32) (v3 : Int32) (h : gk_H) : gk_P gw_V (d + 2) y_M_products b_M_products 9 none [] (f_M_products_b121 b84 v0 v1 v2 v3 h) 121 [(0, va_rf v0), (1, .int v1), (2, .int v2), (3, .int v3)] [] h := by
  unfold f_M_products_b121
  refine gk_aload_n (pc := 121) 0 d_M_products_121 rfl ?_
  refine gk_iconst (pc := 122) (3 : Int32) d_M_products_122 rfl ?_
  refine gk_callV (pc := 123) (d := (d + 1)) (w' := gv_V) (as := [.int (3 : Int32)]) (n := 1) 7 d_M_products_123 rfl rfl rfl rfl (Nat.le_of_ble_eq_true rfl) tw_1805 tw_1807 tw_21 tw_99 cw_M_fail hy_M_fail (Nat.le_of_ble_eq_true rfl) (p_M_fail (d + 1) v0 (3 : Int32) h) fun _ h1 => ?_
  exact p_M_products_b126 d b84 q84 v0 v1 v2 v3 h1
theorem p_M_products_b84 (d : Nat)  : ∀ (fu : Nat) (v0 : Option Nat) (v1 : Int32) (v2 : Int32) (v3 : Int32) (h : gk_H), gk_P gw_V (d + 2) y_M_products b_M_products 9 none [] (f_M_products_b84  fu v0 v1 v2 v3 h) 84 [(0, va_rf v0), (1, .int v1), (2, .int v2), (3, .int v3)] [] h := by
  intro fu
  induction fu with
  | zero => intros; exact gk_none
  | succ fu q84 =>
    intro v0 v1 v2 v3 h
    rw [f_M_products_b84]
    refine gk_iload_n (pc := 84) 3 d_M_products_84 rfl ?_
    refine gk_iload_n (pc := 85) 1 d_M_products_85 rfl ?_
    refine gk_iload_n (pc := 86) 2 d_M_products_86 rfl ?_
    refine gk_iadd (pc := 87) d_M_products_87 ?_
    refine gk_icmp_ge (pc := 88) 132 d_M_products_88 rfl (fun _ => ?_) (fun _ => ?_)
    · refine gk_dconst0 (pc := 132) d_M_products_132 ?_
      refine gk_dstore_n (pc := 133) (L' := [(3, .double (0x0000000000000000)), (0, va_rf v0), (1, .int v1), (2, .int v2)]) d_M_products_133 (Nat.le_of_ble_eq_true rfl) rfl ?_
      refine gk_iconst (pc := 134) (0 : Int32) d_M_products_134 rfl ?_
      refine gk_istore (pc := 135) (L' := [(5, .int (0 : Int32)), (3, .double (0x0000000000000000)), (0, va_rf v0), (1, .int v1), (2, .int v2)]) d_M_products_135 (Nat.le_of_ble_eq_true rfl) rfl ?_
      refine gk_weak [2, 3, 4, 1, 0] (L' := [(0, va_rf v0), (1, .int v1), (2, .int v2), (3, .double (0x0000000000000000)), (5, .int (0 : Int32))]) rfl ?_
      exact p_M_products_b137 d gk_F v0 v1 v2 (0x0000000000000000) (0 : Int32) h
    · refine gk_aload_n (pc := 91) 0 d_M_products_91 rfl ?_
      refine gk_getR (pc := 92) 7 5 d_M_products_92 rfl (Nat.le_of_ble_eq_true rfl) tw_1650 fun x1 => ?_
      refine gk_iload_n (pc := 95) 3 d_M_products_95 rfl ?_
      refine gk_iald (pc := 96) d_M_products_96 fun x2 => ?_
      refine gk_aload_n (pc := 97) 0 d_M_products_97 rfl ?_
      refine gk_getR (pc := 98) 7 5 d_M_products_98 rfl (Nat.le_of_ble_eq_true rfl) tw_1650 fun x3 => ?_
      refine gk_iload_n (pc := 101) 1 d_M_products_101 rfl ?_
      refine gk_iald (pc := 102) d_M_products_102 fun x4 => ?_
      refine gk_icmp_ne (pc := 103) 121 d_M_products_103 rfl (fun _ => ?_) (fun _ => ?_)
      · refine gk_aload_n (pc := 106) 0 d_M_products_106 rfl ?_
        refine gk_getR (pc := 107) 7 6 d_M_products_107 rfl (Nat.le_of_ble_eq_true rfl) tw_1651 fun x5 => ?_
        refine gk_iload_n (pc := 110) 3 d_M_products_110 rfl ?_
        refine gk_iald (pc := 111) d_M_products_111 fun x6 => ?_
        refine gk_aload_n (pc := 112) 0 d_M_products_112 rfl ?_
        refine gk_getR (pc := 113) 7 6 d_M_products_113 rfl (Nat.le_of_ble_eq_true rfl) tw_1651 fun x7 => ?_
        refine gk_iload_n (pc := 116) 1 d_M_products_116 rfl ?_
        refine gk_iald (pc := 117) d_M_products_117 fun x8 => ?_
        refine gk_icmp_eq (pc := 118) 126 d_M_products_118 rfl (fun _ => ?_) (fun _ => ?_)
        · exact p_M_products_b126 d (f_M_products_b84 fu) q84 v0 v1 v2 v3 h
        · exact p_M_products_b121 d (f_M_products_b84 fu) q84 v0 v1 v2 v3 h
      · exact p_M_products_b121 d (f_M_products_b84 fu) q84 v0 v1 v2 v3 h
theorem p_M_products_b68 (d : Nat) (b7 : Option Nat → Int32 → Int32 → Int32 → gk_H → Option (Unit × gk_H)) (q7 : ∀ (v0 : Option Nat) (v1 : Int32) (v2 : Int32) (v3 : Int32) (h : gk_H), gk_P gw_V (d + 2) y_M_products b_M_products 9 none [] (b7 v0 v1 v2 v3 h) 7 [(0, va_rf v0), (1, .int v1), (2, .int v2), (3, .int v3)] [] h) (b17 : Option Nat → Int32 → Int32 → Int32 → Int32 → gk_H → Option (Unit × gk_H)) (q17 : ∀ (v0 : Option Nat) (v1 : Int32) (v2 : Int32) (v3 : Int32) (v4 : Int32) (h : gk_H), gk_P gw_V (d + 2) y_M_products b_M_products 9 none [] (b17 v0 v1 v2 v3 v4 h) 17 [(0, va_rf v0), (1, .int v1), (2, .int v2), (3, .int v3), (4, .int v4)] [] h) (v0 : Option Nat) (v1 : Int32) (v2 : Int32) (v3 : Int32) (v4 : Int32) (h : gk_H) : gk_P gw_V (d + 2) y_M_products b_M_products 9 none [] (f_M_products_b68 b7 b17 v0 v1 v2 v3 v4 h) 68 [(0, va_rf v0), (1, .int v1), (2, .int v2), (3, .int v3), (4, .int v4)] [] h := by
  unfold f_M_products_b68
  refine gk_iincN (pc := 68) 4 (1 : Int32) (L' := fun x1 => [(4, .int x1), (0, va_rf v0), (1, .int v1), (2, .int v2), (3, .int v3)]) d_M_products_68 rfl rfl (Nat.le_of_ble_eq_true rfl) (fun _ => rfl) fun x1 => ?_
  refine gk_goto (pc := 71) 17 d_M_products_71 rfl ?_
  refine gk_weak [1, 2, 3, 4, 0] (L' := [(0, va_rf v0), (1, .int v1), (2, .int v2), (3, .int v3), (4, .int x1)]) rfl ?_
  exact q17 v0 v1 v2 v3 x1 h
theorem p_M_products_b17 (d : Nat) (b7 : Option Nat → Int32 → Int32 → Int32 → gk_H → Option (Unit × gk_H)) (q7 : ∀ (v0 : Option Nat) (v1 : Int32) (v2 : Int32) (v3 : Int32) (h : gk_H), gk_P gw_V (d + 2) y_M_products b_M_products 9 none [] (b7 v0 v1 v2 v3 h) 7 [(0, va_rf v0), (1, .int v1), (2, .int v2), (3, .int v3)] [] h) : ∀ (fu : Nat) (v0 : Option Nat) (v1 : Int32) (v2 : Int32) (v3 : Int32) (v4 : Int32) (h : gk_H), gk_P gw_V (d + 2) y_M_products b_M_products 9 none [] (f_M_products_b17 b7 fu v0 v1 v2 v3 v4 h) 17 [(0, va_rf v0), (1, .int v1), (2, .int v2), (3, .int v3), (4, .int v4)] [] h := by
  intro fu
  induction fu with
  | zero => intros; exact gk_none
  | succ fu q17 =>
    intro v0 v1 v2 v3 v4 h
    rw [f_M_products_b17]
    refine gk_iload (pc := 17) 4 d_M_products_17 rfl ?_
    refine gk_aload_n (pc := 19) 0 d_M_products_19 rfl ?_
    refine gk_getR (pc := 20) 7 5 d_M_products_20 rfl (Nat.le_of_ble_eq_true rfl) tw_1650 fun x1 => ?_
    refine gk_iload_n (pc := 23) 3 d_M_products_23 rfl ?_
    refine gk_iald (pc := 24) d_M_products_24 fun x2 => ?_
    refine gk_aload_n (pc := 25) 0 d_M_products_25 rfl ?_
    refine gk_getR (pc := 26) 7 6 d_M_products_26 rfl (Nat.le_of_ble_eq_true rfl) tw_1651 fun x3 => ?_
    refine gk_iload_n (pc := 29) 3 d_M_products_29 rfl ?_
    refine gk_iald (pc := 30) d_M_products_30 fun x4 => ?_
    refine gk_imul (pc := 31) d_M_products_31 ?_
    refine gk_icmp_ge (pc := 32) 74 d_M_products_32 rfl (fun _ => ?_) (fun _ => ?_)
    · refine gk_iincN (pc := 74) 3 (1 : Int32) (L' := fun x5 => [(3, .int x5), (0, va_rf v0), (1, .int v1), (2, .int v2), (4, .int v4)]) d_M_products_74 rfl rfl (Nat.le_of_ble_eq_true rfl) (fun _ => rfl) fun x5 => ?_
      refine gk_goto (pc := 77) 7 d_M_products_77 rfl ?_
      refine gk_weak [1, 2, 3, 0] (L' := [(0, va_rf v0), (1, .int v1), (2, .int v2), (3, .int x5)]) rfl ?_
      exact q7 v0 v1 v2 x5 h
    · refine gk_aload_n (pc := 35) 0 d_M_products_35 rfl ?_
      refine gk_getR (pc := 36) 7 7 d_M_products_36 rfl (Nat.le_of_ble_eq_true rfl) tw_1652 fun x6 => ?_
      refine gk_bipush (pc := 39) (16 : Int32) d_M_products_39 rfl ?_
      refine gk_iload_n (pc := 41) 3 d_M_products_41 rfl ?_
      refine gk_imul (pc := 42) d_M_products_42 ?_
      refine gk_iload (pc := 43) 4 d_M_products_43 rfl ?_
      refine gk_iadd (pc := 45) d_M_products_45 ?_
      refine gk_iald (pc := 46) d_M_products_46 fun x7 => ?_
      refine gk_iconst (pc := 47) (4 : Int32) d_M_products_47 rfl ?_
      refine gk_icmp_ne (pc := 48) 68 d_M_products_48 rfl (fun _ => ?_) (fun _ => ?_)
      · refine gk_aload_n (pc := 51) 0 d_M_products_51 rfl ?_
        refine gk_aload_n (pc := 52) 0 d_M_products_52 rfl ?_
        refine gk_getR (pc := 53) 7 8 d_M_products_53 rfl (Nat.le_of_ble_eq_true rfl) tw_1653 fun x8 => ?_
        refine gk_bipush (pc := 56) (16 : Int32) d_M_products_56 rfl ?_
        refine gk_iload_n (pc := 58) 3 d_M_products_58 rfl ?_
        refine gk_imul (pc := 59) d_M_products_59 ?_
        refine gk_iload (pc := 60) 4 d_M_products_60 rfl ?_
        refine gk_iadd (pc := 62) d_M_products_62 ?_
        refine gk_dald (pc := 63) d_M_products_63 fun x9 => ?_
        refine gk_d2i (pc := 64) d_M_products_64 ?_
        refine gk_callV (pc := 65) (d := (d + 1)) (w' := gv_V) (as := [.int (FP.d2i x9)]) (n := 1) 7 d_M_products_65 rfl rfl rfl rfl (Nat.le_of_ble_eq_true rfl) tw_1805 tw_1807 tw_21 tw_99 cw_M_fail hy_M_fail (Nat.le_of_ble_eq_true rfl) (p_M_fail (d + 1) v0 (FP.d2i x9) h) fun _ h1 => ?_
        exact p_M_products_b68 d b7 q7 (f_M_products_b17 b7 fu) q17 v0 v1 v2 v3 v4 h1
      · exact p_M_products_b68 d b7 q7 (f_M_products_b17 b7 fu) q17 v0 v1 v2 v3 v4 h
theorem p_M_products_b7 (d : Nat)  : ∀ (fu : Nat) (v0 : Option Nat) (v1 : Int32) (v2 : Int32) (v3 : Int32) (h : gk_H), gk_P gw_V (d + 2) y_M_products b_M_products 9 none [] (f_M_products_b7  fu v0 v1 v2 v3 h) 7 [(0, va_rf v0), (1, .int v1), (2, .int v2), (3, .int v3)] [] h := by
  intro fu
  induction fu with
  | zero => intros; exact gk_none
  | succ fu q7 =>
    intro v0 v1 v2 v3 h
    rw [f_M_products_b7]
    refine gk_iload_n (pc := 7) 3 d_M_products_7 rfl ?_
    refine gk_iload_n (pc := 8) 1 d_M_products_8 rfl ?_
    refine gk_iload_n (pc := 9) 2 d_M_products_9 rfl ?_
    refine gk_iadd (pc := 10) d_M_products_10 ?_
    refine gk_icmp_ge (pc := 11) 80 d_M_products_11 rfl (fun _ => ?_) (fun _ => ?_)
    · refine gk_iload_n (pc := 80) 1 d_M_products_80 rfl ?_
      refine gk_iconst (pc := 81) (1 : Int32) d_M_products_81 rfl ?_
      refine gk_iadd (pc := 82) d_M_products_82 ?_
      refine gk_topI (pc := 83) fun x1 => ?_
      refine gk_istore_n (pc := 83) (L' := [(3, .int x1), (0, va_rf v0), (1, .int v1), (2, .int v2)]) d_M_products_83 (Nat.le_of_ble_eq_true rfl) rfl ?_
      refine gk_weak [1, 2, 3, 0] (L' := [(0, va_rf v0), (1, .int v1), (2, .int v2), (3, .int x1)]) rfl ?_
      exact p_M_products_b84 d gk_F v0 v1 v2 x1 h
    · refine gk_iconst (pc := 14) (0 : Int32) d_M_products_14 rfl ?_
      refine gk_istore (pc := 15) (L' := [(4, .int (0 : Int32)), (0, va_rf v0), (1, .int v1), (2, .int v2), (3, .int v3)]) d_M_products_15 (Nat.le_of_ble_eq_true rfl) rfl ?_
      refine gk_weak [1, 2, 3, 4, 0] (L' := [(0, va_rf v0), (1, .int v1), (2, .int v2), (3, .int v3), (4, .int (0 : Int32))]) rfl ?_
      exact p_M_products_b17 d (f_M_products_b7 fu) q7 gk_F v0 v1 v2 v3 (0 : Int32) h
theorem w_M_products (d : Nat) (a0 : Option Nat) (a1 : Int32) (a2 : Int32) (h : gk_H) : gk_P gw_V (d + 2) y_M_products b_M_products 9 none [] (f_M_products a0 a1 a2 h) 0 [(0, va_rf a0), (1, .int a1), (2, .int a2)] [] h := by
  unfold f_M_products
  refine gk_aload_n (pc := 0) 0 d_M_products_0 rfl ?_
  refine gk_iconst (pc := 1) (0 : Int32) d_M_products_1 rfl ?_
  refine gk_putfield (pc := 2) 7 12 d_M_products_2 rfl (Nat.le_of_ble_eq_true rfl) tw_1657 (Or.inl rfl) fun h1 => ?_
  refine gk_iload_n (pc := 5) 1 d_M_products_5 rfl ?_
  refine gk_istore_n (pc := 6) (L' := [(3, .int a1), (0, va_rf a0), (1, .int a1), (2, .int a2)]) d_M_products_6 (Nat.le_of_ble_eq_true rfl) rfl ?_
  refine gk_weak [1, 2, 3, 0] (L' := [(0, va_rf a0), (1, .int a1), (2, .int a2), (3, .int a1)]) rfl ?_
  exact p_M_products_b7 d gk_F a0 a1 a2 a1 h1
theorem p_M_products (d : Nat) (a0 : Option Nat) (a1 : Int32) (a2 : Int32) (h : gk_H) : ∀ r h1, f_M_products a0 a1 a2 h = some (r, h1) → gk_M (d + 2) y_M_products b_M_products 9 none [va_rf a0, .int a1, .int a2] h (.inl (gv_V r)) h1 :=
  fun r h1 e => gk_M_of2 (by decide +kernel) (by simp [lv_args, gk_cat_rf, gk_catI, gk_catJ, gk_catD, gv_V, gv_I, gv_J, gv_D, gv_R]) (by simp [lg_sl, gk_cat_rf, gk_catI, gk_catJ, gk_catD, gv_V, gv_I, gv_J, gv_D, gv_R]) (w_M_products d a0 a1 a2 h r h1 e)
theorem d_M_condition_0 : decode b_M_condition 0 = .ok (.aload_n 0, 1) := by decide +kernel
theorem d_M_condition_1 : decode b_M_condition 1 = .ok (.iconst 0, 1) := by decide +kernel
theorem d_M_condition_2 : decode b_M_condition 2 = .ok (.putfield 300, 3) := by decide +kernel
theorem d_M_condition_5 : decode b_M_condition 5 = .ok (.aload_n 0, 1) := by decide +kernel
theorem d_M_condition_6 : decode b_M_condition 6 = .ok (.aload_n 0, 1) := by decide +kernel
theorem d_M_condition_7 : decode b_M_condition 7 = .ok (.getfield 23, 3) := by decide +kernel
theorem d_M_condition_10 : decode b_M_condition 10 = .ok (.iload_n 1, 1) := by decide +kernel
theorem d_M_condition_11 : decode b_M_condition 11 = .ok (.iaload, 1) := by decide +kernel
theorem d_M_condition_12 : decode b_M_condition 12 = .ok (.ifCond .ne 7, 3) := by decide +kernel
theorem d_M_condition_15 : decode b_M_condition 15 = .ok (.iconst 1, 1) := by decide +kernel
theorem d_M_condition_16 : decode b_M_condition 16 = .ok (.goto 9, 3) := by decide +kernel
theorem d_M_condition_19 : decode b_M_condition 19 = .ok (.aload_n 0, 1) := by decide +kernel
theorem d_M_condition_20 : decode b_M_condition 20 = .ok (.getfield 23, 3) := by decide +kernel
theorem d_M_condition_23 : decode b_M_condition 23 = .ok (.iload_n 1, 1) := by decide +kernel
theorem d_M_condition_24 : decode b_M_condition 24 = .ok (.iaload, 1) := by decide +kernel
theorem d_M_condition_25 : decode b_M_condition 25 = .ok (.putfield 303, 3) := by decide +kernel
theorem d_M_condition_28 : decode b_M_condition 28 = .ok (.aload_n 0, 1) := by decide +kernel
theorem d_M_condition_29 : decode b_M_condition 29 = .ok (.aload_n 0, 1) := by decide +kernel
theorem d_M_condition_30 : decode b_M_condition 30 = .ok (.getfield 23, 3) := by decide +kernel
theorem d_M_condition_33 : decode b_M_condition 33 = .ok (.iload_n 1, 1) := by decide +kernel
theorem d_M_condition_34 : decode b_M_condition 34 = .ok (.iaload, 1) := by decide +kernel
theorem d_M_condition_35 : decode b_M_condition 35 = .ok (.ifCond .ne 7, 3) := by decide +kernel
theorem d_M_condition_38 : decode b_M_condition 38 = .ok (.dconst 0, 1) := by decide +kernel
theorem d_M_condition_39 : decode b_M_condition 39 = .ok (.goto 9, 3) := by decide +kernel
theorem d_M_condition_42 : decode b_M_condition 42 = .ok (.aload_n 0, 1) := by decide +kernel
theorem d_M_condition_43 : decode b_M_condition 43 = .ok (.getfield 26, 3) := by decide +kernel
theorem d_M_condition_46 : decode b_M_condition 46 = .ok (.iload_n 1, 1) := by decide +kernel
theorem d_M_condition_47 : decode b_M_condition 47 = .ok (.daload, 1) := by decide +kernel
theorem d_M_condition_48 : decode b_M_condition 48 = .ok (.putfield 306, 3) := by decide +kernel
theorem d_M_condition_51 : decode b_M_condition 51 = .ok (.aload_n 0, 1) := by decide +kernel
theorem d_M_condition_52 : decode b_M_condition 52 = .ok (.getfield 23, 3) := by decide +kernel
theorem d_M_condition_55 : decode b_M_condition 55 = .ok (.iload_n 1, 1) := by decide +kernel
theorem d_M_condition_56 : decode b_M_condition 56 = .ok (.iaload, 1) := by decide +kernel
theorem d_M_condition_57 : decode b_M_condition 57 = .ok (.iconst 2, 1) := by decide +kernel
theorem d_M_condition_58 : decode b_M_condition 58 = .ok (.if_icmp .eq 4, 3) := by decide +kernel
theorem d_M_condition_61 : decode b_M_condition 61 = .ok (.return_, 1) := by decide +kernel
theorem d_M_condition_62 : decode b_M_condition 62 = .ok (.aload_n 0, 1) := by decide +kernel
theorem d_M_condition_63 : decode b_M_condition 63 = .ok (.getfield 30, 3) := by decide +kernel
theorem d_M_condition_66 : decode b_M_condition 66 = .ok (.iload_n 1, 1) := by decide +kernel
theorem d_M_condition_67 : decode b_M_condition 67 = .ok (.iaload, 1) := by decide +kernel
theorem d_M_condition_68 : decode b_M_condition 68 = .ok (.istore_n 2, 1) := by decide +kernel
theorem d_M_condition_69 : decode b_M_condition 69 = .ok (.iconst 0, 1) := by decide +kernel
theorem d_M_condition_70 : decode b_M_condition 70 = .ok (.istore_n 3, 1) := by decide +kernel
theorem d_M_condition_71 : decode b_M_condition 71 = .ok (.iload_n 3, 1) := by decide +kernel
theorem d_M_condition_72 : decode b_M_condition 72 = .ok (.iload_n 2, 1) := by decide +kernel
theorem d_M_condition_73 : decode b_M_condition 73 = .ok (.if_icmp .ge 27, 3) := by decide +kernel
theorem d_M_condition_76 : decode b_M_condition 76 = .ok (.aload_n 0, 1) := by decide +kernel
theorem d_M_condition_77 : decode b_M_condition 77 = .ok (.getfield 43, 3) := by decide +kernel
theorem d_M_condition_80 : decode b_M_condition 80 = .ok (.iload_n 3, 1) := by decide +kernel
theorem d_M_condition_81 : decode b_M_condition 81 = .ok (.aload_n 0, 1) := by decide +kernel
theorem d_M_condition_82 : decode b_M_condition 82 = .ok (.getfield 34, 3) := by decide +kernel
theorem d_M_condition_85 : decode b_M_condition 85 = .ok (.sipush 256, 3) := by decide +kernel
theorem d_M_condition_88 : decode b_M_condition 88 = .ok (.iload_n 1, 1) := by decide +kernel
theorem d_M_condition_89 : decode b_M_condition 89 = .ok (.imul, 1) := by decide +kernel
theorem d_M_condition_90 : decode b_M_condition 90 = .ok (.iload_n 3, 1) := by decide +kernel
theorem d_M_condition_91 : decode b_M_condition 91 = .ok (.iadd, 1) := by decide +kernel
theorem d_M_condition_92 : decode b_M_condition 92 = .ok (.baload, 1) := by decide +kernel
theorem d_M_condition_93 : decode b_M_condition 93 = .ok (.bastore, 1) := by decide +kernel
theorem d_M_condition_94 : decode b_M_condition 94 = .ok (.iinc 3 1, 3) := by decide +kernel
theorem d_M_condition_97 : decode b_M_condition 97 = .ok (.goto (-26), 3) := by decide +kernel
theorem d_M_condition_100 : decode b_M_condition 100 = .ok (.iload_n 2, 1) := by decide +kernel
theorem d_M_condition_101 : decode b_M_condition 101 = .ok (.ifCond .le 12, 3) := by decide +kernel
theorem d_M_condition_104 : decode b_M_condition 104 = .ok (.aload_n 0, 1) := by decide +kernel
theorem d_M_condition_105 : decode b_M_condition 105 = .ok (.getfield 43, 3) := by decide +kernel
theorem d_M_condition_108 : decode b_M_condition 108 = .ok (.iconst 0, 1) := by decide +kernel
theorem d_M_condition_109 : decode b_M_condition 109 = .ok (.baload, 1) := by decide +kernel
theorem d_M_condition_110 : decode b_M_condition 110 = .ok (.goto 4, 3) := by decide +kernel
theorem d_M_condition_113 : decode b_M_condition 113 = .ok (.iconst 0, 1) := by decide +kernel
theorem d_M_condition_114 : decode b_M_condition 114 = .ok (.istore_n 3, 1) := by decide +kernel
theorem d_M_condition_115 : decode b_M_condition 115 = .ok (.iload_n 2, 1) := by decide +kernel
theorem d_M_condition_116 : decode b_M_condition 116 = .ok (.iconst 1, 1) := by decide +kernel
theorem d_M_condition_117 : decode b_M_condition 117 = .ok (.if_icmp .le 12, 3) := by decide +kernel
theorem d_M_condition_120 : decode b_M_condition 120 = .ok (.aload_n 0, 1) := by decide +kernel
theorem d_M_condition_121 : decode b_M_condition 121 = .ok (.getfield 43, 3) := by decide +kernel
theorem d_M_condition_124 : decode b_M_condition 124 = .ok (.iconst 1, 1) := by decide +kernel
theorem d_M_condition_125 : decode b_M_condition 125 = .ok (.baload, 1) := by decide +kernel
theorem d_M_condition_126 : decode b_M_condition 126 = .ok (.goto 4, 3) := by decide +kernel
theorem d_M_condition_129 : decode b_M_condition 129 = .ok (.iconst 0, 1) := by decide +kernel
theorem d_M_condition_130 : decode b_M_condition 130 = .ok (.istore 4, 2) := by decide +kernel
theorem d_M_condition_132 : decode b_M_condition 132 = .ok (.aload_n 0, 1) := by decide +kernel
theorem d_M_condition_133 : decode b_M_condition 133 = .ok (.iload_n 3, 1) := by decide +kernel
theorem d_M_condition_134 : decode b_M_condition 134 = .ok (.bipush 60, 2) := by decide +kernel
theorem d_M_condition_136 : decode b_M_condition 136 = .ok (.if_icmp .ne 29, 3) := by decide +kernel
theorem d_M_condition_139 : decode b_M_condition 139 = .ok (.iload 4, 2) := by decide +kernel
theorem d_M_condition_141 : decode b_M_condition 141 = .ok (.bipush 62, 2) := by decide +kernel
theorem d_M_condition_143 : decode b_M_condition 143 = .ok (.if_icmp .ne 7, 3) := by decide +kernel
theorem d_M_condition_146 : decode b_M_condition 146 = .ok (.iconst 1, 1) := by decide +kernel
theorem d_M_condition_147 : decode b_M_condition 147 = .ok (.goto 40, 3) := by decide +kernel
theorem d_M_condition_150 : decode b_M_condition 150 = .ok (.iload 4, 2) := by decide +kernel
theorem d_M_condition_152 : decode b_M_condition 152 = .ok (.bipush 61, 2) := by decide +kernel
theorem d_M_condition_154 : decode b_M_condition 154 = .ok (.if_icmp .ne 7, 3) := by decide +kernel
theorem d_M_condition_157 : decode b_M_condition 157 = .ok (.iconst 4, 1) := by decide +kernel
theorem d_M_condition_158 : decode b_M_condition 158 = .ok (.goto 29, 3) := by decide +kernel
theorem d_M_condition_161 : decode b_M_condition 161 = .ok (.iconst 2, 1) := by decide +kernel
theorem d_M_condition_162 : decode b_M_condition 162 = .ok (.goto 25, 3) := by decide +kernel
theorem d_M_condition_165 : decode b_M_condition 165 = .ok (.iload_n 3, 1) := by decide +kernel
theorem d_M_condition_166 : decode b_M_condition 166 = .ok (.bipush 62, 2) := by decide +kernel
theorem d_M_condition_168 : decode b_M_condition 168 = .ok (.if_icmp .ne 18, 3) := by decide +kernel
theorem d_M_condition_171 : decode b_M_condition 171 = .ok (.iload 4, 2) := by decide +kernel
theorem d_M_condition_173 : decode b_M_condition 173 = .ok (.bipush 61, 2) := by decide +kernel
theorem d_M_condition_175 : decode b_M_condition 175 = .ok (.if_icmp .ne 7, 3) := by decide +kernel
theorem d_M_condition_178 : decode b_M_condition 178 = .ok (.iconst 5, 1) := by decide +kernel
theorem d_M_condition_179 : decode b_M_condition 179 = .ok (.goto 8, 3) := by decide +kernel
theorem d_M_condition_182 : decode b_M_condition 182 = .ok (.iconst 3, 1) := by decide +kernel
theorem d_M_condition_183 : decode b_M_condition 183 = .ok (.goto 4, 3) := by decide +kernel
theorem d_M_condition_186 : decode b_M_condition 186 = .ok (.iconst 0, 1) := by decide +kernel
theorem d_M_condition_187 : decode b_M_condition 187 = .ok (.putfield 300, 3) := by decide +kernel
theorem d_M_condition_190 : decode b_M_condition 190 = .ok (.aload_n 0, 1) := by decide +kernel
theorem d_M_condition_191 : decode b_M_condition 191 = .ok (.getfield 300, 3) := by decide +kernel
theorem d_M_condition_194 : decode b_M_condition 194 = .ok (.iconst 1, 1) := by decide +kernel
theorem d_M_condition_195 : decode b_M_condition 195 = .ok (.if_icmp .eq 11, 3) := by decide +kernel
theorem d_M_condition_198 : decode b_M_condition 198 = .ok (.aload_n 0, 1) := by decide +kernel
theorem d_M_condition_199 : decode b_M_condition 199 = .ok (.getfield 300, 3) := by decide +kernel
theorem d_M_condition_202 : decode b_M_condition 202 = .ok (.iconst 3, 1) := by decide +kernel
theorem d_M_condition_203 : decode b_M_condition 203 = .ok (.if_icmp .le 7, 3) := by decide +kernel
theorem d_M_condition_206 : decode b_M_condition 206 = .ok (.iconst 2, 1) := by decide +kernel
theorem d_M_condition_207 : decode b_M_condition 207 = .ok (.goto 22, 3) := by decide +kernel
theorem d_M_condition_210 : decode b_M_condition 210 = .ok (.aload_n 0, 1) := by decide +kernel
theorem d_M_condition_211 : decode b_M_condition 211 = .ok (.getfield 300, 3) := by decide +kernel
theorem d_M_condition_214 : decode b_M_condition 214 = .ok (.iconst 1, 1) := by decide +kernel
theorem d_M_condition_215 : decode b_M_condition 215 = .ok (.if_icmp .gt 9, 3) := by decide +kernel
theorem d_M_condition_218 : decode b_M_condition 218 = .ok (.iload_n 3, 1) := by decide +kernel
theorem d_M_condition_219 : decode b_M_condition 219 = .ok (.bipush 61, 2) := by decide +kernel
theorem d_M_condition_221 : decode b_M_condition 221 = .ok (.if_icmp .ne 7, 3) := by decide +kernel
theorem d_M_condition_224 : decode b_M_condition 224 = .ok (.iconst 1, 1) := by decide +kernel
theorem d_M_condition_225 : decode b_M_condition 225 = .ok (.goto 4, 3) := by decide +kernel
theorem d_M_condition_228 : decode b_M_condition 228 = .ok (.iconst 0, 1) := by decide +kernel
theorem d_M_condition_229 : decode b_M_condition 229 = .ok (.istore 5, 2) := by decide +kernel
theorem d_M_condition_231 : decode b_M_condition 231 = .ok (.aload_n 0, 1) := by decide +kernel
theorem d_M_condition_232 : decode b_M_condition 232 = .ok (.iload 5, 2) := by decide +kernel
theorem d_M_condition_234 : decode b_M_condition 234 = .ok (.putfield 309, 3) := by decide +kernel
theorem d_M_condition_237 : decode b_M_condition 237 = .ok (.aload_n 0, 1) := by decide +kernel
theorem d_M_condition_238 : decode b_M_condition 238 = .ok (.iload_n 2, 1) := by decide +kernel
theorem d_M_condition_239 : decode b_M_condition 239 = .ok (.iload 5, 2) := by decide +kernel
theorem d_M_condition_241 : decode b_M_condition 241 = .ok (.isub, 1) := by decide +kernel
theorem d_M_condition_242 : decode b_M_condition 242 = .ok (.putfield 312, 3) := by decide +kernel
theorem d_M_condition_245 : decode b_M_condition 245 = .ok (.aload_n 0, 1) := by decide +kernel
theorem d_M_condition_246 : decode b_M_condition 246 = .ok (.aload_n 0, 1) := by decide +kernel
theorem d_M_condition_247 : decode b_M_condition 247 = .ok (.getfield 43, 3) := by decide +kernel
theorem d_M_condition_250 : decode b_M_condition 250 = .ok (.aload_n 0, 1) := by decide +kernel
theorem d_M_condition_251 : decode b_M_condition 251 = .ok (.getfield 309, 3) := by decide +kernel
theorem d_M_condition_254 : decode b_M_condition 254 = .ok (.aload_n 0, 1) := by decide +kernel
theorem d_M_condition_255 : decode b_M_condition 255 = .ok (.getfield 312, 3) := by decide +kernel
theorem d_M_condition_258 : decode b_M_condition 258 = .ok (.invokevirtual 133, 3) := by decide +kernel
theorem d_M_condition_261 : decode b_M_condition 261 = .ok (.ifCond .eq 16, 3) := by decide +kernel
theorem d_M_condition_264 : decode b_M_condition 264 = .ok (.aload_n 0, 1) := by decide +kernel
theorem d_M_condition_265 : decode b_M_condition 265 = .ok (.iconst 1, 1) := by decide +kernel
theorem d_M_condition_266 : decode b_M_condition 266 = .ok (.putfield 303, 3) := by decide +kernel
theorem d_M_condition_269 : decode b_M_condition 269 = .ok (.aload_n 0, 1) := by decide +kernel
theorem d_M_condition_270 : decode b_M_condition 270 = .ok (.aload_n 0, 1) := by decide +kernel
theorem d_M_condition_271 : decode b_M_condition 271 = .ok (.getfield 103, 3) := by decide +kernel
theorem d_M_condition_274 : decode b_M_condition 274 = .ok (.putfield 306, 3) := by decide +kernel
theorem d_M_condition_277 : decode b_M_condition 277 = .ok (.return_, 1) := by decide +kernel
theorem p_M_condition_b277 (d : Nat)   (h : gk_H) : gk_P gw_V (d + 2) y_M_condition b_M_condition 6 none [] (f_M_condition_b277   h) 277 [] [] h := by
  unfold f_M_condition_b277
  exact gk_vret (pc := 277) rfl d_M_condition_277 rfl
theorem p_M_condition_b229 (d : Nat)  (v0 : Option Nat) (v2 : Int32) (s0 : Int32) (h : gk_H) : gk_P gw_V (d + 2) y_M_condition b_M_condition 6 none [] (f_M_condition_b229  v0 v2 s0 h) 229 [(0, va_rf v0), (2, .int v2)] [.int s0] h := by
  unfold f_M_condition_b229
  refine gk_istore (pc := 229) (L' := [(5, .int s0), (0, va_rf v0), (2, .int v2)]) d_M_condition_229 (Nat.le_of_ble_eq_true rfl) rfl ?_
  refine gk_aload_n (pc := 231) 1 d_M_condition_231 rfl ?_
  refine gk_iload (pc := 232) 0 d_M_condition_232 rfl ?_
  refine gk_putfield (pc := 234) 7 20 d_M_condition_234 rfl (Nat.le_of_ble_eq_true rfl) tw_1665 (Or.inl rfl) fun h1 => ?_
  refine gk_aload_n (pc := 237) 1 d_M_condition_237 rfl ?_
  refine gk_iload_n (pc := 238) 2 d_M_condition_238 rfl ?_
  refine gk_iload (pc := 239) 0 d_M_condition_239 rfl ?_
  refine gk_isub (pc := 241) d_M_condition_241 ?_
  refine gk_putfield (pc := 242) 7 21 d_M_condition_242 rfl (Nat.le_of_ble_eq_true rfl) tw_1666 (Or.inl rfl) fun h2 => ?_
  refine gk_aload_n (pc := 245) 1 d_M_condition_245 rfl ?_
  refine gk_aload_n (pc := 246) 1 d_M_condition_246 rfl ?_
  refine gk_getR (pc := 247) 7 15 d_M_condition_247 rfl (Nat.le_of_ble_eq_true rfl) tw_1660 fun x1 => ?_
  refine gk_aload_n (pc := 250) 1 d_M_condition_250 rfl ?_
  refine gk_getI (pc := 251) 7 20 d_M_condition_251 rfl (Nat.le_of_ble_eq_true rfl) tw_1665 fun x2 => ?_
  refine gk_aload_n (pc := 254) 1 d_M_condition_254 rfl ?_
  refine gk_getI (pc := 255) 7 21 d_M_condition_255 rfl (Nat.le_of_ble_eq_true rfl) tw_1666 fun x3 => ?_
  refine gk_callV (pc := 258) (d := (d + 1)) (w' := gv_I) (as := [va_rf x1, .int x2, .int x3]) (n := 3) 7 d_M_condition_258 rfl rfl rfl rfl (Nat.le_of_ble_eq_true rfl) tw_1876 tw_1878 tw_33 tw_99 cw_M_isNumeral hy_M_isNumeral (Nat.le_of_ble_eq_true rfl) (p_M_isNumeral d v0 x1 x2 x3 h2) fun x4 h3 => ?_
  refine gk_if_eq (pc := 261) 277 d_M_condition_261 rfl (fun _ => ?_) (fun _ => ?_)
  · refine gk_weak [] (L' := []) rfl ?_
    exact p_M_condition_b277 d h3
  · refine gk_aload_n (pc := 264) 1 d_M_condition_264 rfl ?_
    refine gk_iconst (pc := 265) (1 : Int32) d_M_condition_265 rfl ?_
    refine gk_putfield (pc := 266) 7 18 d_M_condition_266 rfl (Nat.le_of_ble_eq_true rfl) tw_1663 (Or.inl rfl) fun h4 => ?_
    refine gk_aload_n (pc := 269) 1 d_M_condition_269 rfl ?_
    refine gk_aload_n (pc := 270) 1 d_M_condition_270 rfl ?_
    refine gk_getD (pc := 271) 7 16 d_M_condition_271 rfl (Nat.le_of_ble_eq_true rfl) tw_1661 fun x5 => ?_
    refine gk_putfield (pc := 274) 7 19 d_M_condition_274 rfl (Nat.le_of_ble_eq_true rfl) tw_1664 (Or.inl rfl) fun h5 => ?_
    refine gk_weak [] (L' := []) rfl ?_
    exact p_M_condition_b277 d h5
theorem p_M_condition_b206 (d : Nat)  (v0 : Option Nat) (v2 : Int32) (h : gk_H) : gk_P gw_V (d + 2) y_M_condition b_M_condition 6 none [] (f_M_condition_b206  v0 v2 h) 206 [(0, va_rf v0), (2, .int v2)] [] h := by
  unfold f_M_condition_b206
  refine gk_iconst (pc := 206) (2 : Int32) d_M_condition_206 rfl ?_
  refine gk_goto (pc := 207) 229 d_M_condition_207 rfl ?_
  exact p_M_condition_b229 d v0 v2 (2 : Int32) h
theorem p_M_condition_b224 (d : Nat)  (v0 : Option Nat) (v2 : Int32) (h : gk_H) : gk_P gw_V (d + 2) y_M_condition b_M_condition 6 none [] (f_M_condition_b224  v0 v2 h) 224 [(0, va_rf v0), (2, .int v2)] [] h := by
  unfold f_M_condition_b224
  refine gk_iconst (pc := 224) (1 : Int32) d_M_condition_224 rfl ?_
  refine gk_goto (pc := 225) 229 d_M_condition_225 rfl ?_
  exact p_M_condition_b229 d v0 v2 (1 : Int32) h
theorem p_M_condition_b187 (d : Nat)  (v0 : Option Nat) (v2 : Int32) (v3 : Int32) (s0 : Option Nat) (s1 : Int32) (h : gk_H) : gk_P gw_V (d + 2) y_M_condition b_M_condition 6 none [] (f_M_condition_b187  v0 v2 v3 s0 s1 h) 187 [(0, va_rf v0), (2, .int v2), (3, .int v3)] [.int s1, va_rf s0] h := by
  unfold f_M_condition_b187
  refine gk_putfield (pc := 187) 7 17 d_M_condition_187 rfl (Nat.le_of_ble_eq_true rfl) tw_1662 (Or.inl rfl) fun h1 => ?_
  refine gk_aload_n (pc := 190) 0 d_M_condition_190 rfl ?_
  refine gk_getI (pc := 191) 7 17 d_M_condition_191 rfl (Nat.le_of_ble_eq_true rfl) tw_1662 fun x1 => ?_
  refine gk_iconst (pc := 194) (1 : Int32) d_M_condition_194 rfl ?_
  refine gk_icmp_eq (pc := 195) 206 d_M_condition_195 rfl (fun _ => ?_) (fun _ => ?_)
  · refine gk_weak [0, 1] (L' := [(0, va_rf v0), (2, .int v2)]) rfl ?_
    exact p_M_condition_b206 d v0 v2 h1
  · refine gk_aload_n (pc := 198) 0 d_M_condition_198 rfl ?_
    refine gk_getI (pc := 199) 7 17 d_M_condition_199 rfl (Nat.le_of_ble_eq_true rfl) tw_1662 fun x2 => ?_
    refine gk_iconst (pc := 202) (3 : Int32) d_M_condition_202 rfl ?_
    refine gk_icmp_le (pc := 203) 210 d_M_condition_203 rfl (fun _ => ?_) (fun _ => ?_)
    · refine gk_aload_n (pc := 210) 0 d_M_condition_210 rfl ?_
      refine gk_getI (pc := 211) 7 17 d_M_condition_211 rfl (Nat.le_of_ble_eq_true rfl) tw_1662 fun x3 => ?_
      refine gk_iconst (pc := 214) (1 : Int32) d_M_condition_214 rfl ?_
      refine gk_icmp_gt (pc := 215) 224 d_M_condition_215 rfl (fun _ => ?_) (fun _ => ?_)
      · refine gk_weak [0, 1] (L' := [(0, va_rf v0), (2, .int v2)]) rfl ?_
        exact p_M_condition_b224 d v0 v2 h1
      · refine gk_iload_n (pc := 218) 2 d_M_condition_218 rfl ?_
        refine gk_bipush (pc := 219) (61 : Int32) d_M_condition_219 rfl ?_
        refine gk_icmp_ne (pc := 221) 228 d_M_condition_221 rfl (fun _ => ?_) (fun _ => ?_)
        · refine gk_weak [0, 1] (L' := [(0, va_rf v0), (2, .int v2)]) rfl ?_
          exact p_M_condition_b224 d v0 v2 h1
        · refine gk_iconst (pc := 228) (0 : Int32) d_M_condition_228 rfl ?_
          refine gk_weak [0, 1] (L' := [(0, va_rf v0), (2, .int v2)]) rfl ?_
          exact p_M_condition_b229 d v0 v2 (0 : Int32) h1
    · refine gk_weak [0, 1] (L' := [(0, va_rf v0), (2, .int v2)]) rfl ?_
      exact p_M_condition_b206 d v0 v2 h1
theorem p_M_condition_b130 (d : Nat)  (v0 : Option Nat) (v2 : Int32) (v3 : Int32) (s0 : Int32) (h : gk_H) : gk_P gw_V (d + 2) y_M_condition b_M_condition 6 none [] (f_M_condition_b130  v0 v2 v3 s0 h) 130 [(0, va_rf v0), (2, .int v2), (3, .int v3)] [.int s0] h := by
  unfold f_M_condition_b130
  refine gk_istore (pc := 130) (L' := [(4, .int s0), (0, va_rf v0), (2, .int v2), (3, .int v3)]) d_M_condition_130 (Nat.le_of_ble_eq_true rfl) rfl ?_
  refine gk_aload_n (pc := 132) 1 d_M_condition_132 rfl ?_
  refine gk_iload_n (pc := 133) 3 d_M_condition_133 rfl ?_
  refine gk_bipush (pc := 134) (60 : Int32) d_M_condition_134 rfl ?_
  refine gk_icmp_ne (pc := 136) 165 d_M_condition_136 rfl (fun _ => ?_) (fun _ => ?_)
  · refine gk_iload (pc := 139) 0 d_M_condition_139 rfl ?_
    refine gk_bipush (pc := 141) (62 : Int32) d_M_condition_141 rfl ?_
    refine gk_icmp_ne (pc := 143) 150 d_M_condition_143 rfl (fun _ => ?_) (fun _ => ?_)
    · refine gk_iconst (pc := 146) (1 : Int32) d_M_condition_146 rfl ?_
      refine gk_goto (pc := 147) 187 d_M_condition_147 rfl ?_
      refine gk_weak [1, 2, 3] (L' := [(0, va_rf v0), (2, .int v2), (3, .int v3)]) rfl ?_
      exact p_M_condition_b187 d v0 v2 v3 v0 (1 : Int32) h
    · refine gk_iload (pc := 150) 0 d_M_condition_150 rfl ?_
      refine gk_bipush (pc := 152) (61 : Int32) d_M_condition_152 rfl ?_
      refine gk_icmp_ne (pc := 154) 161 d_M_condition_154 rfl (fun _ => ?_) (fun _ => ?_)
      · refine gk_iconst (pc := 157) (4 : Int32) d_M_condition_157 rfl ?_
        refine gk_goto (pc := 158) 187 d_M_condition_158 rfl ?_
        refine gk_weak [1, 2, 3] (L' := [(0, va_rf v0), (2, .int v2), (3, .int v3)]) rfl ?_
        exact p_M_condition_b187 d v0 v2 v3 v0 (4 : Int32) h
      · refine gk_iconst (pc := 161) (2 : Int32) d_M_condition_161 rfl ?_
        refine gk_goto (pc := 162) 187 d_M_condition_162 rfl ?_
        refine gk_weak [1, 2, 3] (L' := [(0, va_rf v0), (2, .int v2), (3, .int v3)]) rfl ?_
        exact p_M_condition_b187 d v0 v2 v3 v0 (2 : Int32) h
  · refine gk_iload_n (pc := 165) 3 d_M_condition_165 rfl ?_
    refine gk_bipush (pc := 166) (62 : Int32) d_M_condition_166 rfl ?_
    refine gk_icmp_ne (pc := 168) 186 d_M_condition_168 rfl (fun _ => ?_) (fun _ => ?_)
    · refine gk_iload (pc := 171) 0 d_M_condition_171 rfl ?_
      refine gk_bipush (pc := 173) (61 : Int32) d_M_condition_173 rfl ?_
      refine gk_icmp_ne (pc := 175) 182 d_M_condition_175 rfl (fun _ => ?_) (fun _ => ?_)
      · refine gk_iconst (pc := 178) (5 : Int32) d_M_condition_178 rfl ?_
        refine gk_goto (pc := 179) 187 d_M_condition_179 rfl ?_
        refine gk_weak [1, 2, 3] (L' := [(0, va_rf v0), (2, .int v2), (3, .int v3)]) rfl ?_
        exact p_M_condition_b187 d v0 v2 v3 v0 (5 : Int32) h
      · refine gk_iconst (pc := 182) (3 : Int32) d_M_condition_182 rfl ?_
        refine gk_goto (pc := 183) 187 d_M_condition_183 rfl ?_
        refine gk_weak [1, 2, 3] (L' := [(0, va_rf v0), (2, .int v2), (3, .int v3)]) rfl ?_
        exact p_M_condition_b187 d v0 v2 v3 v0 (3 : Int32) h
    · refine gk_iconst (pc := 186) (0 : Int32) d_M_condition_186 rfl ?_
      refine gk_weak [1, 2, 3] (L' := [(0, va_rf v0), (2, .int v2), (3, .int v3)]) rfl ?_
      exact p_M_condition_b187 d v0 v2 v3 v0 (0 : Int32) h
theorem p_M_condition_b114 (d : Nat)  (v0 : Option Nat) (v2 : Int32) (s0 : Int32) (h : gk_H) : gk_P gw_V (d + 2) y_M_condition b_M_condition 6 none [] (f_M_condition_b114  v0 v2 s0 h) 114 [(0, va_rf v0), (2, .int v2)] [.int s0] h := by
  unfold f_M_condition_b114
  refine gk_istore_n (pc := 114) (L' := [(3, .int s0), (0, va_rf v0), (2, .int v2)]) d_M_condition_114 (Nat.le_of_ble_eq_true rfl) rfl ?_
  refine gk_iload_n (pc := 115) 2 d_M_condition_115 rfl ?_
  refine gk_iconst (pc := 116) (1 : Int32) d_M_condition_116 rfl ?_
  refine gk_icmp_le (pc := 117) 129 d_M_condition_117 rfl (fun _ => ?_) (fun _ => ?_)
  · refine gk_iconst (pc := 129) (0 : Int32) d_M_condition_129 rfl ?_
    refine gk_weak [1, 2, 0] (L' := [(0, va_rf v0), (2, .int v2), (3, .int s0)]) rfl ?_
    exact p_M_condition_b130 d v0 v2 s0 (0 : Int32) h
  · refine gk_aload_n (pc := 120) 1 d_M_condition_120 rfl ?_
    refine gk_getR (pc := 121) 7 15 d_M_condition_121 rfl (Nat.le_of_ble_eq_true rfl) tw_1660 fun x1 => ?_
    refine gk_iconst (pc := 124) (1 : Int32) d_M_condition_124 rfl ?_
    refine gk_bald (pc := 125) d_M_condition_125 fun x2 => ?_
    refine gk_goto (pc := 126) 130 d_M_condition_126 rfl ?_
    refine gk_weak [1, 2, 0] (L' := [(0, va_rf v0), (2, .int v2), (3, .int s0)]) rfl ?_
    exact p_M_condition_b130 d v0 v2 s0 x2 h
theorem p_M_condition_b71 (d : Nat)  : ∀ (fu : Nat) (v0 : Option Nat) (v1 : Int32) (v2 : Int32) (v3 : Int32) (h : gk_H), gk_P gw_V (d + 2) y_M_condition b_M_condition 6 none [] (f_M_condition_b71  fu v0 v1 v2 v3 h) 71 [(0, va_rf v0), (1, .int v1), (2, .int v2), (3, .int v3)] [] h := by
  intro fu
  induction fu with
  | zero => intros; exact gk_none
  | succ fu q71 =>
    intro v0 v1 v2 v3 h
    rw [f_M_condition_b71]
    refine gk_iload_n (pc := 71) 3 d_M_condition_71 rfl ?_
    refine gk_iload_n (pc := 72) 2 d_M_condition_72 rfl ?_
    refine gk_icmp_ge (pc := 73) 100 d_M_condition_73 rfl (fun _ => ?_) (fun _ => ?_)
    · refine gk_iload_n (pc := 100) 2 d_M_condition_100 rfl ?_
      refine gk_if_le (pc := 101) 113 d_M_condition_101 rfl (fun _ => ?_) (fun _ => ?_)
      · refine gk_iconst (pc := 113) (0 : Int32) d_M_condition_113 rfl ?_
        refine gk_weak [0, 2] (L' := [(0, va_rf v0), (2, .int v2)]) rfl ?_
        exact p_M_condition_b114 d v0 v2 (0 : Int32) h
      · refine gk_aload_n (pc := 104) 0 d_M_condition_104 rfl ?_
        refine gk_getR (pc := 105) 7 15 d_M_condition_105 rfl (Nat.le_of_ble_eq_true rfl) tw_1660 fun x1 => ?_
        refine gk_iconst (pc := 108) (0 : Int32) d_M_condition_108 rfl ?_
        refine gk_bald (pc := 109) d_M_condition_109 fun x2 => ?_
        refine gk_goto (pc := 110) 114 d_M_condition_110 rfl ?_
        refine gk_weak [0, 2] (L' := [(0, va_rf v0), (2, .int v2)]) rfl ?_
        exact p_M_condition_b114 d v0 v2 x2 h
    · refine gk_aload_n (pc := 76) 0 d_M_condition_76 rfl ?_
      refine gk_getR (pc := 77) 7 15 d_M_condition_77 rfl (Nat.le_of_ble_eq_true rfl) tw_1660 fun x3 => ?_
      refine gk_iload_n (pc := 80) 3 d_M_condition_80 rfl ?_
      refine gk_aload_n (pc := 81) 0 d_M_condition_81 rfl ?_
      refine gk_getR (pc := 82) 7 10 d_M_condition_82 rfl (Nat.le_of_ble_eq_true rfl) tw_1655 fun x4 => ?_
      refine gk_sipush (pc := 85) (256 : Int32) d_M_condition_85 rfl ?_
      refine gk_iload_n (pc := 88) 1 d_M_condition_88 rfl ?_
      refine gk_imul (pc := 89) d_M_condition_89 ?_
      refine gk_iload_n (pc := 90) 3 d_M_condition_90 rfl ?_
      refine gk_iadd (pc := 91) d_M_condition_91 ?_
      refine gk_bald (pc := 92) d_M_condition_92 fun x5 => ?_
      refine gk_bast (pc := 93) d_M_condition_93 fun h1 => ?_
      refine gk_iincN (pc := 94) 3 (1 : Int32) (L' := fun x6 => [(3, .int x6), (0, va_rf v0), (1, .int v1), (2, .int v2)]) d_M_condition_94 rfl rfl (Nat.le_of_ble_eq_true rfl) (fun _ => rfl) fun x6 => ?_
      refine gk_goto (pc := 97) 71 d_M_condition_97 rfl ?_
      refine gk_weak [1, 2, 3, 0] (L' := [(0, va_rf v0), (1, .int v1), (2, .int v2), (3, .int x6)]) rfl ?_
      exact q71 v0 v1 v2 x6 h1
theorem p_M_condition_b48 (d : Nat)  (v0 : Option Nat) (v1 : Int32) (s0 : Option Nat) (s1 : UInt64) (h : gk_H) : gk_P gw_V (d + 2) y_M_condition b_M_condition 6 none [] (f_M_condition_b48  v0 v1 s0 s1 h) 48 [(0, va_rf v0), (1, .int v1)] [.double s1, va_rf s0] h := by
  unfold f_M_condition_b48
  refine gk_putfield (pc := 48) 7 19 d_M_condition_48 rfl (Nat.le_of_ble_eq_true rfl) tw_1664 (Or.inl rfl) fun h1 => ?_
  refine gk_aload_n (pc := 51) 0 d_M_condition_51 rfl ?_
  refine gk_getR (pc := 52) 7 7 d_M_condition_52 rfl (Nat.le_of_ble_eq_true rfl) tw_1652 fun x1 => ?_
  refine gk_iload_n (pc := 55) 1 d_M_condition_55 rfl ?_
  refine gk_iald (pc := 56) d_M_condition_56 fun x2 => ?_
  refine gk_iconst (pc := 57) (2 : Int32) d_M_condition_57 rfl ?_
  refine gk_icmp_eq (pc := 58) 62 d_M_condition_58 rfl (fun _ => ?_) (fun _ => ?_)
  · refine gk_aload_n (pc := 62) 0 d_M_condition_62 rfl ?_
    refine gk_getR (pc := 63) 7 9 d_M_condition_63 rfl (Nat.le_of_ble_eq_true rfl) tw_1654 fun x3 => ?_
    refine gk_iload_n (pc := 66) 1 d_M_condition_66 rfl ?_
    refine gk_iald (pc := 67) d_M_condition_67 fun x4 => ?_
    refine gk_istore_n (pc := 68) (L' := [(2, .int x4), (0, va_rf v0), (1, .int v1)]) d_M_condition_68 (Nat.le_of_ble_eq_true rfl) rfl ?_
    refine gk_iconst (pc := 69) (0 : Int32) d_M_condition_69 rfl ?_
    refine gk_istore_n (pc := 70) (L' := [(3, .int (0 : Int32)), (2, .int x4), (0, va_rf v0), (1, .int v1)]) d_M_condition_70 (Nat.le_of_ble_eq_true rfl) rfl ?_
    refine gk_weak [2, 3, 1, 0] (L' := [(0, va_rf v0), (1, .int v1), (2, .int x4), (3, .int (0 : Int32))]) rfl ?_
    exact p_M_condition_b71 d gk_F v0 v1 x4 (0 : Int32) h1
  · exact gk_vret (pc := 61) rfl d_M_condition_61 rfl
theorem p_M_condition_b25 (d : Nat)  (v0 : Option Nat) (v1 : Int32) (s0 : Option Nat) (s1 : Int32) (h : gk_H) : gk_P gw_V (d + 2) y_M_condition b_M_condition 6 none [] (f_M_condition_b25  v0 v1 s0 s1 h) 25 [(0, va_rf v0), (1, .int v1)] [.int s1, va_rf s0] h := by
  unfold f_M_condition_b25
  refine gk_putfield (pc := 25) 7 18 d_M_condition_25 rfl (Nat.le_of_ble_eq_true rfl) tw_1663 (Or.inl rfl) fun h1 => ?_
  refine gk_aload_n (pc := 28) 0 d_M_condition_28 rfl ?_
  refine gk_aload_n (pc := 29) 0 d_M_condition_29 rfl ?_
  refine gk_getR (pc := 30) 7 7 d_M_condition_30 rfl (Nat.le_of_ble_eq_true rfl) tw_1652 fun x1 => ?_
  refine gk_iload_n (pc := 33) 1 d_M_condition_33 rfl ?_
  refine gk_iald (pc := 34) d_M_condition_34 fun x2 => ?_
  refine gk_if_ne (pc := 35) 42 d_M_condition_35 rfl (fun _ => ?_) (fun _ => ?_)
  · refine gk_dconst0 (pc := 38) d_M_condition_38 ?_
    refine gk_goto (pc := 39) 48 d_M_condition_39 rfl ?_
    exact p_M_condition_b48 d v0 v1 v0 (0x0000000000000000) h1
  · refine gk_aload_n (pc := 42) 0 d_M_condition_42 rfl ?_
    refine gk_getR (pc := 43) 7 8 d_M_condition_43 rfl (Nat.le_of_ble_eq_true rfl) tw_1653 fun x3 => ?_
    refine gk_iload_n (pc := 46) 1 d_M_condition_46 rfl ?_
    refine gk_dald (pc := 47) d_M_condition_47 fun x4 => ?_
    exact p_M_condition_b48 d v0 v1 v0 x4 h1
theorem w_M_condition (d : Nat) (a0 : Option Nat) (a1 : Int32) (h : gk_H) : gk_P gw_V (d + 2) y_M_condition b_M_condition 6 none [] (f_M_condition a0 a1 h) 0 [(0, va_rf a0), (1, .int a1)] [] h := by
  unfold f_M_condition
  refine gk_aload_n (pc := 0) 0 d_M_condition_0 rfl ?_
  refine gk_iconst (pc := 1) (0 : Int32) d_M_condition_1 rfl ?_
  refine gk_putfield (pc := 2) 7 17 d_M_condition_2 rfl (Nat.le_of_ble_eq_true rfl) tw_1662 (Or.inl rfl) fun h1 => ?_
  refine gk_aload_n (pc := 5) 0 d_M_condition_5 rfl ?_
  refine gk_aload_n (pc := 6) 0 d_M_condition_6 rfl ?_
  refine gk_getR (pc := 7) 7 7 d_M_condition_7 rfl (Nat.le_of_ble_eq_true rfl) tw_1652 fun x1 => ?_
  refine gk_iload_n (pc := 10) 1 d_M_condition_10 rfl ?_
  refine gk_iald (pc := 11) d_M_condition_11 fun x2 => ?_
  refine gk_if_ne (pc := 12) 19 d_M_condition_12 rfl (fun _ => ?_) (fun _ => ?_)
  · refine gk_iconst (pc := 15) (1 : Int32) d_M_condition_15 rfl ?_
    refine gk_goto (pc := 16) 25 d_M_condition_16 rfl ?_
    exact p_M_condition_b25 d a0 a1 a0 (1 : Int32) h1
  · refine gk_aload_n (pc := 19) 0 d_M_condition_19 rfl ?_
    refine gk_getR (pc := 20) 7 7 d_M_condition_20 rfl (Nat.le_of_ble_eq_true rfl) tw_1652 fun x3 => ?_
    refine gk_iload_n (pc := 23) 1 d_M_condition_23 rfl ?_
    refine gk_iald (pc := 24) d_M_condition_24 fun x4 => ?_
    exact p_M_condition_b25 d a0 a1 a0 x4 h1
theorem p_M_condition (d : Nat) (a0 : Option Nat) (a1 : Int32) (h : gk_H) : ∀ r h1, f_M_condition a0 a1 h = some (r, h1) → gk_M (d + 2) y_M_condition b_M_condition 6 none [va_rf a0, .int a1] h (.inl (gv_V r)) h1 :=
  fun r h1 e => gk_M_of2 (by decide +kernel) (by simp [lv_args, gk_cat_rf, gk_catI, gk_catJ, gk_catD, gv_V, gv_I, gv_J, gv_D, gv_R]) (by simp [lg_sl, gk_cat_rf, gk_catI, gk_catJ, gk_catD, gv_V, gv_I, gv_J, gv_D, gv_R]) (w_M_condition d a0 a1 h r h1 e)
