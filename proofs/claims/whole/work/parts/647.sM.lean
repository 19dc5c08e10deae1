theorem d_M_addPart_0 : decode b_M_addPart 0 = .ok (.lload 4, 2) := by decide +kernel
theorem d_M_addPart_2 : decode b_M_addPart 2 = .ok (.aload_n 0, 1) := by decide +kernel
theorem d_M_addPart_3 : decode b_M_addPart 3 = .ok (.getfield 40, 3) := by decide +kernel
theorem d_M_addPart_6 : decode b_M_addPart 6 = .ok (.iload_n 1, 1) := by decide +kernel
theorem d_M_addPart_7 : decode b_M_addPart 7 = .ok (.iaload, 1) := by decide +kernel
theorem d_M_addPart_8 : decode b_M_addPart 8 = .ok (.i2l, 1) := by decide +kernel
theorem d_M_addPart_9 : decode b_M_addPart 9 = .ok (.lcmp, 1) := by decide +kernel
theorem d_M_addPart_10 : decode b_M_addPart 10 = .ok (.ifCond .ge 8, 3) := by decide +kernel
theorem d_M_addPart_13 : decode b_M_addPart 13 = .ok (.lload 4, 2) := by decide +kernel
theorem d_M_addPart_15 : decode b_M_addPart 15 = .ok (.goto 10, 3) := by decide +kernel
theorem d_M_addPart_18 : decode b_M_addPart 18 = .ok (.aload_n 0, 1) := by decide +kernel
theorem d_M_addPart_19 : decode b_M_addPart 19 = .ok (.getfield 40, 3) := by decide +kernel
theorem d_M_addPart_22 : decode b_M_addPart 22 = .ok (.iload_n 1, 1) := by decide +kernel
theorem d_M_addPart_23 : decode b_M_addPart 23 = .ok (.iaload, 1) := by decide +kernel
theorem d_M_addPart_24 : decode b_M_addPart 24 = .ok (.i2l, 1) := by decide +kernel
theorem d_M_addPart_25 : decode b_M_addPart 25 = .ok (.lstore 6, 2) := by decide +kernel
theorem d_M_addPart_27 : decode b_M_addPart 27 = .ok (.lload_n 2, 1) := by decide +kernel
theorem d_M_addPart_28 : decode b_M_addPart 28 = .ok (.lstore 8, 2) := by decide +kernel
theorem d_M_addPart_30 : decode b_M_addPart 30 = .ok (.lload 8, 2) := by decide +kernel
theorem d_M_addPart_32 : decode b_M_addPart 32 = .ok (.lload 6, 2) := by decide +kernel
theorem d_M_addPart_34 : decode b_M_addPart 34 = .ok (.lcmp, 1) := by decide +kernel
theorem d_M_addPart_35 : decode b_M_addPart 35 = .ok (.ifCond .ge 37, 3) := by decide +kernel
theorem d_M_addPart_38 : decode b_M_addPart 38 = .ok (.aload_n 0, 1) := by decide +kernel
theorem d_M_addPart_39 : decode b_M_addPart 39 = .ok (.getfield 62, 3) := by decide +kernel
theorem d_M_addPart_42 : decode b_M_addPart 42 = .ok (.ifCond .ne 30, 3) := by decide +kernel
theorem d_M_addPart_45 : decode b_M_addPart 45 = .ok (.aload_n 0, 1) := by decide +kernel
theorem d_M_addPart_46 : decode b_M_addPart 46 = .ok (.aload_n 0, 1) := by decide +kernel
theorem d_M_addPart_47 : decode b_M_addPart 47 = .ok (.getfield 43, 3) := by decide +kernel
theorem d_M_addPart_50 : decode b_M_addPart 50 = .ok (.sipush 256, 3) := by decide +kernel
theorem d_M_addPart_53 : decode b_M_addPart 53 = .ok (.iload_n 1, 1) := by decide +kernel
theorem d_M_addPart_54 : decode b_M_addPart 54 = .ok (.imul, 1) := by decide +kernel
theorem d_M_addPart_55 : decode b_M_addPart 55 = .ok (.lload 8, 2) := by decide +kernel
theorem d_M_addPart_57 : decode b_M_addPart 57 = .ok (.l2i, 1) := by decide +kernel
theorem d_M_addPart_58 : decode b_M_addPart 58 = .ok (.iadd, 1) := by decide +kernel
theorem d_M_addPart_59 : decode b_M_addPart 59 = .ok (.baload, 1) := by decide +kernel
theorem d_M_addPart_60 : decode b_M_addPart 60 = .ok (.invokevirtual 224, 3) := by decide +kernel
theorem d_M_addPart_63 : decode b_M_addPart 63 = .ok (.lload 8, 2) := by decide +kernel
theorem d_M_addPart_65 : decode b_M_addPart 65 = .ok (.lconst 1, 1) := by decide +kernel
theorem d_M_addPart_66 : decode b_M_addPart 66 = .ok (.ladd, 1) := by decide +kernel
theorem d_M_addPart_67 : decode b_M_addPart 67 = .ok (.lstore 8, 2) := by decide +kernel
theorem d_M_addPart_69 : decode b_M_addPart 69 = .ok (.goto (-39), 3) := by decide +kernel
theorem d_M_addPart_72 : decode b_M_addPart 72 = .ok (.return_, 1) := by decide +kernel
theorem p_M_addPart_b72 (d : Nat)   (h : gk_H) : gk_P gw_V (d + 2) y_M_addPart b_M_addPart 10 none [] (f_M_addPart_b72   h) 72 [] [] h := by
  unfold f_M_addPart_b72
  exact gk_vret (pc := 72) rfl d_M_addPart_72 rfl
theorem p_M_addPart_b30 (d : Nat)  : ∀ (fu : Nat) (v0 : Option Nat) (v1 : Int32) (v6 : Int64) (v8 : Int64) (h : gk_H), gk_P gw_V (d + 2) y_M_addPart b_M_addPart 10 none [] (f_M_addPart_b30  fu v0 v1 v6 v8 h) 30 [(0, va_rf v0), (1, .int v1), (6, .long v6), (8, .long v8)] [] h := by
  intro fu
  induction fu with
  | zero => intros; exact gk_none
  | succ fu q30 =>
    intro v0 v1 v6 v8 h
    rw [f_M_addPart_b30]
    refine gk_lload (pc := 30) 3 d_M_addPart_30 rfl ?_
    refine gk_lload (pc := 32) 2 d_M_addPart_32 rfl ?_
    refine gk_lcmp (pc := 34) d_M_addPart_34 ?_
    refine gk_if_ge (pc := 35) 72 d_M_addPart_35 rfl (fun _ => ?_) (fun _ => ?_)
    · refine gk_weak [] (L' := []) rfl ?_
      exact p_M_addPart_b72 d h
    · refine gk_aload_n (pc := 38) 0 d_M_addPart_38 rfl ?_
      refine gk_getI (pc := 39) 7 11 d_M_addPart_39 rfl (Nat.le_of_ble_eq_true rfl) tw_1656 fun x1 => ?_
      refine gk_if_ne (pc := 42) 72 d_M_addPart_42 rfl (fun _ => ?_) (fun _ => ?_)
      · refine gk_aload_n (pc := 45) 0 d_M_addPart_45 rfl ?_
        refine gk_aload_n (pc := 46) 0 d_M_addPart_46 rfl ?_
        refine gk_getR (pc := 47) 7 15 d_M_addPart_47 rfl (Nat.le_of_ble_eq_true rfl) tw_1660 fun x2 => ?_
        refine gk_sipush (pc := 50) (256 : Int32) d_M_addPart_50 rfl ?_
        refine gk_iload_n (pc := 53) 1 d_M_addPart_53 rfl ?_
        refine gk_imul (pc := 54) d_M_addPart_54 ?_
        refine gk_lload (pc := 55) 3 d_M_addPart_55 rfl ?_
        refine gk_l2i (pc := 57) d_M_addPart_57 ?_
        refine gk_iadd (pc := 58) d_M_addPart_58 ?_
        refine gk_bald (pc := 59) d_M_addPart_59 fun x3 => ?_
        refine gk_callV (pc := 60) (d := (d + 1)) (w' := gv_V) (as := [.int x3]) (n := 1) 7 d_M_addPart_60 rfl rfl rfl rfl (Nat.le_of_ble_eq_true rfl) tw_1863 tw_1865 tw_30 tw_99 cw_M_add hy_M_add (Nat.le_of_ble_eq_true rfl) (p_M_add d v0 x3 h) fun _ h1 => ?_
        refine gk_lload (pc := 63) 3 d_M_addPart_63 rfl ?_
        refine gk_lconst (pc := 65) (1 : Int64) d_M_addPart_65 rfl ?_
        refine gk_ladd (pc := 66) d_M_addPart_66 ?_
        refine gk_topJ (pc := 67) fun x4 => ?_
        refine gk_lstore (pc := 67) (L' := [(8, .long x4), (0, va_rf v0), (1, .int v1), (6, .long v6)]) d_M_addPart_67 (Nat.le_of_ble_eq_true rfl) rfl ?_
        refine gk_goto (pc := 69) 30 d_M_addPart_69 rfl ?_
        refine gk_weak [1, 2, 3, 0] (L' := [(0, va_rf v0), (1, .int v1), (6, .long v6), (8, .long x4)]) rfl ?_
        exact q30 v0 v1 v6 x4 h1
      · refine gk_weak [] (L' := []) rfl ?_
        exact p_M_addPart_b72 d h
theorem p_M_addPart_b25 (d : Nat)  (v0 : Option Nat) (v1 : Int32) (v2 : Int64) (s0 : Int64) (h : gk_H) : gk_P gw_V (d + 2) y_M_addPart b_M_addPart 10 none [] (f_M_addPart_b25  v0 v1 v2 s0 h) 25 [(0, va_rf v0), (1, .int v1), (2, .long v2)] [.long s0] h := by
  unfold f_M_addPart_b25
  refine gk_lstore (pc := 25) (L' := [(6, .long s0), (0, va_rf v0), (1, .int v1), (2, .long v2)]) d_M_addPart_25 (Nat.le_of_ble_eq_true rfl) rfl ?_
  refine gk_lload_n (pc := 27) 3 d_M_addPart_27 rfl ?_
  refine gk_lstore (pc := 28) (L' := [(8, .long v2), (6, .long s0), (0, va_rf v0), (1, .int v1), (2, .long v2)]) d_M_addPart_28 (Nat.le_of_ble_eq_true rfl) rfl ?_
  refine gk_weak [2, 3, 1, 0] (L' := [(0, va_rf v0), (1, .int v1), (6, .long s0), (8, .long v2)]) rfl ?_
  exact p_M_addPart_b30 d gk_F v0 v1 s0 v2 h
theorem w_M_addPart (d : Nat) (a0 : Option Nat) (a1 : Int32) (a2 : Int64) (a3 : Int64) (h : gk_H) : gk_P gw_V (d + 2) y_M_addPart b_M_addPart 10 none [] (f_M_addPart a0 a1 a2 a3 h) 0 [(0, va_rf a0), (1, .int a1), (2, .long a2), (4, .long a3)] [] h := by
  unfold f_M_addPart
  refine gk_lload (pc := 0) 3 d_M_addPart_0 rfl ?_
  refine gk_aload_n (pc := 2) 0 d_M_addPart_2 rfl ?_
  refine gk_getR (pc := 3) 7 14 d_M_addPart_3 rfl (Nat.le_of_ble_eq_true rfl) tw_1659 fun x1 => ?_
  refine gk_iload_n (pc := 6) 1 d_M_addPart_6 rfl ?_
  refine gk_iald (pc := 7) d_M_addPart_7 fun x2 => ?_
  refine gk_i2l (pc := 8) d_M_addPart_8 ?_
  refine gk_lcmp (pc := 9) d_M_addPart_9 ?_
  refine gk_if_ge (pc := 10) 18 d_M_addPart_10 rfl (fun _ => ?_) (fun _ => ?_)
  · refine gk_aload_n (pc := 18) 0 d_M_addPart_18 rfl ?_
    refine gk_getR (pc := 19) 7 14 d_M_addPart_19 rfl (Nat.le_of_ble_eq_true rfl) tw_1659 fun x3 => ?_
    refine gk_iload_n (pc := 22) 1 d_M_addPart_22 rfl ?_
    refine gk_iald (pc := 23) d_M_addPart_23 fun x4 => ?_
    refine gk_i2l (pc := 24) d_M_addPart_24 ?_
    refine gk_weak [0, 1, 2] (L' := [(0, va_rf a0), (1, .int a1), (2, .long a2)]) rfl ?_
    exact p_M_addPart_b25 d a0 a1 a2 (Int32.toInt64 x4) h
  · refine gk_lload (pc := 13) 3 d_M_addPart_13 rfl ?_
    refine gk_goto (pc := 15) 25 d_M_addPart_15 rfl ?_
    refine gk_weak [0, 1, 2] (L' := [(0, va_rf a0), (1, .int a1), (2, .long a2)]) rfl ?_
    exact p_M_addPart_b25 d a0 a1 a2 a3 h
theorem p_M_addPart (d : Nat) (a0 : Option Nat) (a1 : Int32) (a2 : Int64) (a3 : Int64) (h : gk_H) : ∀ r h1, f_M_addPart a0 a1 a2 a3 h = some (r, h1) → gk_M (d + 2) y_M_addPart b_M_addPart 10 none [va_rf a0, .int a1, .long a2, .long a3] h (.inl (gv_V r)) h1 :=
  fun r h1 e => gk_M_of2 (by decide +kernel) (by simp [lv_args, gk_cat_rf, gk_catI, gk_catJ, gk_catD, gv_V, gv_I, gv_J, gv_D, gv_R]) (by simp [lg_sl, gk_cat_rf, gk_catI, gk_catJ, gk_catD, gv_V, gv_I, gv_J, gv_D, gv_R]) (w_M_addPart d a0 a1 a2 a3 h r h1 e)
theorem d_M_substitute_0 : decode b_M_substitute 0 = .ok (.aload_n 0, 1) := by decide +kernel
theorem d_M_substitute_1 : decode b_M_substitute 1 = .ok (.iload_n 1, 1) := by decide +kernel
theorem d_M_substitute_2 : decode b_M_substitute 2 = .ok (.iconst 1, 1) := by decide +kernel
theorem d_M_substitute_3 : decode b_M_substitute 3 = .ok (.iadd, 1) := by decide +kernel
theorem d_M_substitute_4 : decode b_M_substitute 4 = .ok (.iconst 1, 1) := by decide +kernel
theorem d_M_substitute_5 : decode b_M_substitute 5 = .ok (.invokevirtual 197, 3) := by decide +kernel
theorem d_M_substitute_8 : decode b_M_substitute 8 = .ok (.aload_n 0, 1) := by decide +kernel
theorem d_M_substitute_9 : decode b_M_substitute 9 = .ok (.iload_n 1, 1) := by decide +kernel
theorem d_M_substitute_10 : decode b_M_substitute 10 = .ok (.iconst 2, 1) := by decide +kernel
theorem d_M_substitute_11 : decode b_M_substitute 11 = .ok (.iadd, 1) := by decide +kernel
theorem d_M_substitute_12 : decode b_M_substitute 12 = .ok (.iconst 2, 1) := by decide +kernel
theorem d_M_substitute_13 : decode b_M_substitute 13 = .ok (.invokevirtual 197, 3) := by decide +kernel
theorem d_M_substitute_16 : decode b_M_substitute 16 = .ok (.iload_n 2, 1) := by decide +kernel
theorem d_M_substitute_17 : decode b_M_substitute 17 = .ok (.iconst 4, 1) := by decide +kernel
theorem d_M_substitute_18 : decode b_M_substitute 18 = .ok (.if_icmp .ne 13, 3) := by decide +kernel
theorem d_M_substitute_21 : decode b_M_substitute 21 = .ok (.aload_n 0, 1) := by decide +kernel
theorem d_M_substitute_22 : decode b_M_substitute 22 = .ok (.iload_n 1, 1) := by decide +kernel
theorem d_M_substitute_23 : decode b_M_substitute 23 = .ok (.iconst 3, 1) := by decide +kernel
theorem d_M_substitute_24 : decode b_M_substitute 24 = .ok (.iadd, 1) := by decide +kernel
theorem d_M_substitute_25 : decode b_M_substitute 25 = .ok (.invokevirtual 296, 3) := by decide +kernel
theorem d_M_substitute_28 : decode b_M_substitute 28 = .ok (.goto 4, 3) := by decide +kernel
theorem d_M_substitute_31 : decode b_M_substitute 31 = .ok (.lconst 0, 1) := by decide +kernel
theorem d_M_substitute_32 : decode b_M_substitute 32 = .ok (.lstore_n 3, 1) := by decide +kernel
theorem d_M_substitute_33 : decode b_M_substitute 33 = .ok (.aload_n 0, 1) := by decide +kernel
theorem d_M_substitute_34 : decode b_M_substitute 34 = .ok (.getfield 62, 3) := by decide +kernel
theorem d_M_substitute_37 : decode b_M_substitute 37 = .ok (.ifCond .ne 19, 3) := by decide +kernel
theorem d_M_substitute_40 : decode b_M_substitute 40 = .ok (.iload_n 2, 1) := by decide +kernel
theorem d_M_substitute_41 : decode b_M_substitute 41 = .ok (.iconst 4, 1) := by decide +kernel
theorem d_M_substitute_42 : decode b_M_substitute 42 = .ok (.if_icmp .ne 14, 3) := by decide +kernel
theorem d_M_substitute_45 : decode b_M_substitute 45 = .ok (.lload_n 3, 1) := by decide +kernel
theorem d_M_substitute_46 : decode b_M_substitute 46 = .ok (.lconst 1, 1) := by decide +kernel
theorem d_M_substitute_47 : decode b_M_substitute 47 = .ok (.lcmp, 1) := by decide +kernel
theorem d_M_substitute_48 : decode b_M_substitute 48 = .ok (.ifCond .ge 8, 3) := by decide +kernel
theorem d_M_substitute_51 : decode b_M_substitute 51 = .ok (.aload_n 0, 1) := by decide +kernel
theorem d_M_substitute_52 : decode b_M_substitute 52 = .ok (.iconst 3, 1) := by decide +kernel
theorem d_M_substitute_53 : decode b_M_substitute 53 = .ok (.invokevirtual 58, 3) := by decide +kernel
theorem d_M_substitute_56 : decode b_M_substitute 56 = .ok (.aload_n 0, 1) := by decide +kernel
theorem d_M_substitute_57 : decode b_M_substitute 57 = .ok (.getfield 62, 3) := by decide +kernel
theorem d_M_substitute_60 : decode b_M_substitute 60 = .ok (.ifCond .le 4, 3) := by decide +kernel
theorem d_M_substitute_63 : decode b_M_substitute 63 = .ok (.return_, 1) := by decide +kernel
theorem d_M_substitute_64 : decode b_M_substitute 64 = .ok (.aload_n 0, 1) := by decide +kernel
theorem d_M_substitute_65 : decode b_M_substitute 65 = .ok (.bipush 16, 2) := by decide +kernel
theorem d_M_substitute_67 : decode b_M_substitute 67 = .ok (.iconst 2, 1) := by decide +kernel
theorem d_M_substitute_68 : decode b_M_substitute 68 = .ok (.dconst 0, 1) := by decide +kernel
theorem d_M_substitute_69 : decode b_M_substitute 69 = .ok (.invokevirtual 76, 3) := by decide +kernel
theorem d_M_substitute_72 : decode b_M_substitute 72 = .ok (.iconst 0, 1) := by decide +kernel
theorem d_M_substitute_73 : decode b_M_substitute 73 = .ok (.istore 5, 2) := by decide +kernel
theorem d_M_substitute_75 : decode b_M_substitute 75 = .ok (.lconst 0, 1) := by decide +kernel
theorem d_M_substitute_76 : decode b_M_substitute 76 = .ok (.lstore 6, 2) := by decide +kernel
theorem d_M_substitute_78 : decode b_M_substitute 78 = .ok (.iload 5, 2) := by decide +kernel
theorem d_M_substitute_80 : decode b_M_substitute 80 = .ok (.aload_n 0, 1) := by decide +kernel
theorem d_M_substitute_81 : decode b_M_substitute 81 = .ok (.getfield 40, 3) := by decide +kernel
theorem d_M_substitute_84 : decode b_M_substitute 84 = .ok (.iconst 0, 1) := by decide +kernel
theorem d_M_substitute_85 : decode b_M_substitute 85 = .ok (.iaload, 1) := by decide +kernel
theorem d_M_substitute_86 : decode b_M_substitute 86 = .ok (.if_icmp .ge 139, 3) := by decide +kernel
theorem d_M_substitute_89 : decode b_M_substitute 89 = .ok (.aload_n 0, 1) := by decide +kernel
theorem d_M_substitute_90 : decode b_M_substitute 90 = .ok (.getfield 62, 3) := by decide +kernel
theorem d_M_substitute_93 : decode b_M_substitute 93 = .ok (.ifCond .ne 132, 3) := by decide +kernel
theorem d_M_substitute_96 : decode b_M_substitute 96 = .ok (.aload_n 0, 1) := by decide +kernel
theorem d_M_substitute_97 : decode b_M_substitute 97 = .ok (.getfield 40, 3) := by decide +kernel
theorem d_M_substitute_100 : decode b_M_substitute 100 = .ok (.iconst 1, 1) := by decide +kernel
theorem d_M_substitute_101 : decode b_M_substitute 101 = .ok (.iaload, 1) := by decide +kernel
theorem d_M_substitute_102 : decode b_M_substitute 102 = .ok (.ifCond .le 18, 3) := by decide +kernel
theorem d_M_substitute_105 : decode b_M_substitute 105 = .ok (.aload_n 0, 1) := by decide +kernel
theorem d_M_substitute_106 : decode b_M_substitute 106 = .ok (.iconst 0, 1) := by decide +kernel
theorem d_M_substitute_107 : decode b_M_substitute 107 = .ok (.iload 5, 2) := by decide +kernel
theorem d_M_substitute_109 : decode b_M_substitute 109 = .ok (.iconst 1, 1) := by decide +kernel
theorem d_M_substitute_110 : decode b_M_substitute 110 = .ok (.invokevirtual 405, 3) := by decide +kernel
theorem d_M_substitute_113 : decode b_M_substitute 113 = .ok (.ifCond .eq 7, 3) := by decide +kernel
theorem d_M_substitute_116 : decode b_M_substitute 116 = .ok (.iconst 1, 1) := by decide +kernel
theorem d_M_substitute_117 : decode b_M_substitute 117 = .ok (.goto 4, 3) := by decide +kernel
theorem d_M_substitute_120 : decode b_M_substitute 120 = .ok (.iconst 0, 1) := by decide +kernel
theorem d_M_substitute_121 : decode b_M_substitute 121 = .ok (.istore 8, 2) := by decide +kernel
theorem d_M_substitute_123 : decode b_M_substitute 123 = .ok (.iload 8, 2) := by decide +kernel
theorem d_M_substitute_125 : decode b_M_substitute 125 = .ok (.ifCond .eq 10, 3) := by decide +kernel
theorem d_M_substitute_128 : decode b_M_substitute 128 = .ok (.lload 6, 2) := by decide +kernel
theorem d_M_substitute_130 : decode b_M_substitute 130 = .ok (.lconst 1, 1) := by decide +kernel
theorem d_M_substitute_131 : decode b_M_substitute 131 = .ok (.ladd, 1) := by decide +kernel
theorem d_M_substitute_132 : decode b_M_substitute 132 = .ok (.goto 5, 3) := by decide +kernel
theorem d_M_substitute_135 : decode b_M_substitute 135 = .ok (.lload 6, 2) := by decide +kernel
theorem d_M_substitute_137 : decode b_M_substitute 137 = .ok (.lstore 6, 2) := by decide +kernel
theorem d_M_substitute_139 : decode b_M_substitute 139 = .ok (.iload 8, 2) := by decide +kernel
theorem d_M_substitute_141 : decode b_M_substitute 141 = .ok (.ifCond .eq 43, 3) := by decide +kernel
theorem d_M_substitute_144 : decode b_M_substitute 144 = .ok (.lload_n 3, 1) := by decide +kernel
theorem d_M_substitute_145 : decode b_M_substitute 145 = .ok (.lconst 0, 1) := by decide +kernel
theorem d_M_substitute_146 : decode b_M_substitute 146 = .ok (.lcmp, 1) := by decide +kernel
theorem d_M_substitute_147 : decode b_M_substitute 147 = .ok (.ifCond .eq 10, 3) := by decide +kernel
theorem d_M_substitute_150 : decode b_M_substitute 150 = .ok (.lload_n 3, 1) := by decide +kernel
theorem d_M_substitute_151 : decode b_M_substitute 151 = .ok (.lload 6, 2) := by decide +kernel
theorem d_M_substitute_153 : decode b_M_substitute 153 = .ok (.lcmp, 1) := by decide +kernel
theorem d_M_substitute_154 : decode b_M_substitute 154 = .ok (.ifCond .ne 30, 3) := by decide +kernel
theorem d_M_substitute_157 : decode b_M_substitute 157 = .ok (.aload_n 0, 1) := by decide +kernel
theorem d_M_substitute_158 : decode b_M_substitute 158 = .ok (.iconst 2, 1) := by decide +kernel
theorem d_M_substitute_159 : decode b_M_substitute 159 = .ok (.lconst 0, 1) := by decide +kernel
theorem d_M_substitute_160 : decode b_M_substitute 160 = .ok (.aload_n 0, 1) := by decide +kernel
theorem d_M_substitute_161 : decode b_M_substitute 161 = .ok (.getfield 40, 3) := by decide +kernel
theorem d_M_substitute_164 : decode b_M_substitute 164 = .ok (.iconst 2, 1) := by decide +kernel
theorem d_M_substitute_165 : decode b_M_substitute 165 = .ok (.iaload, 1) := by decide +kernel
theorem d_M_substitute_166 : decode b_M_substitute 166 = .ok (.i2l, 1) := by decide +kernel
theorem d_M_substitute_167 : decode b_M_substitute 167 = .ok (.invokevirtual 401, 3) := by decide +kernel
theorem d_M_substitute_170 : decode b_M_substitute 170 = .ok (.iload 5, 2) := by decide +kernel
theorem d_M_substitute_172 : decode b_M_substitute 172 = .ok (.aload_n 0, 1) := by decide +kernel
theorem d_M_substitute_173 : decode b_M_substitute 173 = .ok (.getfield 40, 3) := by decide +kernel
theorem d_M_substitute_176 : decode b_M_substitute 176 = .ok (.iconst 1, 1) := by decide +kernel
theorem d_M_substitute_177 : decode b_M_substitute 177 = .ok (.iaload, 1) := by decide +kernel
theorem d_M_substitute_178 : decode b_M_substitute 178 = .ok (.iadd, 1) := by decide +kernel
theorem d_M_substitute_179 : decode b_M_substitute 179 = .ok (.istore 5, 2) := by decide +kernel
theorem d_M_substitute_181 : decode b_M_substitute 181 = .ok (.goto 41, 3) := by decide +kernel
theorem d_M_substitute_184 : decode b_M_substitute 184 = .ok (.iload 8, 2) := by decide +kernel
theorem d_M_substitute_186 : decode b_M_substitute 186 = .ok (.ifCond .eq 15, 3) := by decide +kernel
theorem d_M_substitute_189 : decode b_M_substitute 189 = .ok (.iload 5, 2) := by decide +kernel
theorem d_M_substitute_191 : decode b_M_substitute 191 = .ok (.aload_n 0, 1) := by decide +kernel
theorem d_M_substitute_192 : decode b_M_substitute 192 = .ok (.getfield 40, 3) := by decide +kernel
theorem d_M_substitute_195 : decode b_M_substitute 195 = .ok (.iconst 1, 1) := by decide +kernel
theorem d_M_substitute_196 : decode b_M_substitute 196 = .ok (.iaload, 1) := by decide +kernel
theorem d_M_substitute_197 : decode b_M_substitute 197 = .ok (.iadd, 1) := by decide +kernel
theorem d_M_substitute_198 : decode b_M_substitute 198 = .ok (.goto 7, 3) := by decide +kernel
theorem d_M_substitute_201 : decode b_M_substitute 201 = .ok (.iload 5, 2) := by decide +kernel
theorem d_M_substitute_203 : decode b_M_substitute 203 = .ok (.iconst 1, 1) := by decide +kernel
theorem d_M_substitute_204 : decode b_M_substitute 204 = .ok (.iadd, 1) := by decide +kernel
theorem d_M_substitute_205 : decode b_M_substitute 205 = .ok (.istore 9, 2) := by decide +kernel
theorem d_M_substitute_207 : decode b_M_substitute 207 = .ok (.aload_n 0, 1) := by decide +kernel
theorem d_M_substitute_208 : decode b_M_substitute 208 = .ok (.iconst 0, 1) := by decide +kernel
theorem d_M_substitute_209 : decode b_M_substitute 209 = .ok (.iload 5, 2) := by decide +kernel
theorem d_M_substitute_211 : decode b_M_substitute 211 = .ok (.i2l, 1) := by decide +kernel
theorem d_M_substitute_212 : decode b_M_substitute 212 = .ok (.iload 9, 2) := by decide +kernel
theorem d_M_substitute_214 : decode b_M_substitute 214 = .ok (.i2l, 1) := by decide +kernel
theorem d_M_substitute_215 : decode b_M_substitute 215 = .ok (.invokevirtual 401, 3) := by decide +kernel
theorem d_M_substitute_218 : decode b_M_substitute 218 = .ok (.iload 9, 2) := by decide +kernel
theorem d_M_substitute_220 : decode b_M_substitute 220 = .ok (.istore 5, 2) := by decide +kernel
theorem d_M_substitute_222 : decode b_M_substitute 222 = .ok (.goto (-144), 3) := by decide +kernel
theorem d_M_substitute_225 : decode b_M_substitute 225 = .ok (.return_, 1) := by decide +kernel
theorem p_M_substitute_b225 (d : Nat)   (h : gk_H) : gk_P gw_V (d + 5) y_M_substitute b_M_substitute 10 none [] (f_M_substitute_b225   h) 225 [] [] h := by
  unfold f_M_substitute_b225
  exact gk_vret (pc := 225) rfl d_M_substitute_225 rfl
theorem p_M_substitute_b222 (d : Nat) (b78 : Option Nat → Int64 → Int32 → Int64 → gk_H → Option (Unit × gk_H)) (q78 : ∀ (v0 : Option Nat) (v3 : Int64) (v5 : Int32) (v6 : Int64) (h : gk_H), gk_P gw_V (d + 5) y_M_substitute b_M_substitute 10 none [] (b78 v0 v3 v5 v6 h) 78 [(0, va_rf v0), (3, .long v3), (5, .int v5), (6, .long v6)] [] h) (v0 : Option Nat) (v3 : Int64) (v5 : Int32) (v6 : Int64) (h : gk_H) : gk_P gw_V (d + 5) y_M_substitute b_M_substitute 10 none [] (f_M_substitute_b222 b78 v0 v3 v5 v6 h) 222 [(0, va_rf v0), (3, .long v3), (5, .int v5), (6, .long v6)] [] h := by
  unfold f_M_substitute_b222
  refine gk_goto (pc := 222) 78 d_M_substitute_222 rfl ?_
  exact q78 v0 v3 v5 v6 h
theorem p_M_substitute_b205 (d : Nat) (b78 : Option Nat → Int64 → Int32 → Int64 → gk_H → Option (Unit × gk_H)) (q78 : ∀ (v0 : Option Nat) (v3 : Int64) (v5 : Int32) (v6 : Int64) (h : gk_H), gk_P gw_V (d + 5) y_M_substitute b_M_substitute 10 none [] (b78 v0 v3 v5 v6 h) 78 [(0, va_rf v0), (3, .long v3), (5, .int v5), (6, .long v6)] [] h) (v0 : Option Nat) (v3 : Int64) (v5 : Int32) (v6 : Int64) (s0 : Int32) (h : gk_H) : gk_P gw_V (d + 5) y_M_substitute b_M_substitute 10 none [] (f_M_substitute_b205 b78 v0 v3 v5 v6 s0 h) 205 [(0, va_rf v0), (3, .long v3), (5, .int v5), (6, .long v6)] [.int s0] h := by
  unfold f_M_substitute_b205
  refine gk_istore (pc := 205) (L' := [(9, .int s0), (0, va_rf v0), (3, .long v3), (5, .int v5), (6, .long v6)]) d_M_substitute_205 (Nat.le_of_ble_eq_true rfl) rfl ?_
  refine gk_aload_n (pc := 207) 1 d_M_substitute_207 rfl ?_
  refine gk_iconst (pc := 208) (0 : Int32) d_M_substitute_208 rfl ?_
  refine gk_iload (pc := 209) 3 d_M_substitute_209 rfl ?_
  refine gk_i2l (pc := 211) d_M_substitute_211 ?_
  refine gk_iload (pc := 212) 0 d_M_substitute_212 rfl ?_
  refine gk_i2l (pc := 214) d_M_substitute_214 ?_
  refine gk_callV (pc := 215) (d := (d + 4)) (w' := gv_V) (as := [.int (0 : Int32), .long (Int32.toInt64 v5), .long (Int32.toInt64 s0)]) (n := 3) 7 d_M_substitute_215 rfl rfl rfl rfl (Nat.le_of_ble_eq_true rfl) tw_2084 tw_2086 tw_72 tw_99 cw_M_addPart hy_M_addPart (Nat.le_of_ble_eq_true rfl) (p_M_addPart (d + 2) v0 (0 : Int32) (Int32.toInt64 v5) (Int32.toInt64 s0) h) fun _ h1 => ?_
  refine gk_iload (pc := 218) 0 d_M_substitute_218 rfl ?_
  refine gk_istore (pc := 220) (L' := [(5, .int s0), (9, .int s0), (0, va_rf v0), (3, .long v3), (6, .long v6)]) d_M_substitute_220 (Nat.le_of_ble_eq_true rfl) rfl ?_
  refine gk_weak [2, 3, 0, 4] (L' := [(0, va_rf v0), (3, .long v3), (5, .int s0), (6, .long v6)]) rfl ?_
  exact p_M_substitute_b222 d b78 q78 v0 v3 s0 v6 h1
theorem p_M_substitute_b184 (d : Nat) (b78 : Option Nat → Int64 → Int32 → Int64 → gk_H → Option (Unit × gk_H)) (q78 : ∀ (v0 : Option Nat) (v3 : Int64) (v5 : Int32) (v6 : Int64) (h : gk_H), gk_P gw_V (d + 5) y_M_substitute b_M_substitute 10 none [] (b78 v0 v3 v5 v6 h) 78 [(0, va_rf v0), (3, .long v3), (5, .int v5), (6, .long v6)] [] h) (v0 : Option Nat) (v3 : Int64) (v5 : Int32) (v6 : Int64) (v8 : Int32) (h : gk_H) : gk_P gw_V (d + 5) y_M_substitute b_M_substitute 10 none [] (f_M_substitute_b184 b78 v0 v3 v5 v6 v8 h) 184 [(0, va_rf v0), (3, .long v3), (5, .int v5), (6, .long v6), (8, .int v8)] [] h := by
  unfold f_M_substitute_b184
  refine gk_iload (pc := 184) 4 d_M_substitute_184 rfl ?_
  refine gk_if_eq (pc := 186) 201 d_M_substitute_186 rfl (fun _ => ?_) (fun _ => ?_)
  · refine gk_iload (pc := 201) 2 d_M_substitute_201 rfl ?_
    refine gk_iconst (pc := 203) (1 : Int32) d_M_substitute_203 rfl ?_
    refine gk_iadd (pc := 204) d_M_substitute_204 ?_
    refine gk_weak [0, 1, 2, 3] (L' := [(0, va_rf v0), (3, .long v3), (5, .int v5), (6, .long v6)]) rfl ?_
    exact p_M_substitute_b205 d b78 q78 v0 v3 v5 v6 (v5 + (1 : Int32)) h
  · refine gk_iload (pc := 189) 2 d_M_substitute_189 rfl ?_
    refine gk_aload_n (pc := 191) 0 d_M_substitute_191 rfl ?_
    refine gk_getR (pc := 192) 7 14 d_M_substitute_192 rfl (Nat.le_of_ble_eq_true rfl) tw_1659 fun x1 => ?_
    refine gk_iconst (pc := 195) (1 : Int32) d_M_substitute_195 rfl ?_
    refine gk_iald (pc := 196) d_M_substitute_196 fun x2 => ?_
    refine gk_iadd (pc := 197) d_M_substitute_197 ?_
    refine gk_goto (pc := 198) 205 d_M_substitute_198 rfl ?_
    refine gk_weak [0, 1, 2, 3] (L' := [(0, va_rf v0), (3, .long v3), (5, .int v5), (6, .long v6)]) rfl ?_
    exact p_M_substitute_b205 d b78 q78 v0 v3 v5 v6 (v5 + x2) h
theorem p_M_substitute_b157 (d : Nat) (b78 : Option Nat → Int64 → Int32 → Int64 → gk_H → Option (Unit × gk_H)) (q78 : ∀ (v0 : Option Nat) (v3 : Int64) (v5 : Int32) (v6 : Int64) (h : gk_H), gk_P gw_V (d + 5) y_M_substitute b_M_substitute 10 none [] (b78 v0 v3 v5 v6 h) 78 [(0, va_rf v0), (3, .long v3), (5, .int v5), (6, .long v6)] [] h) (v0 : Option Nat) (v3 : Int64) (v5 : Int32) (v6 : Int64) (h : gk_H) : gk_P gw_V (d + 5) y_M_substitute b_M_substitute 10 none [] (f_M_substitute_b157 b78 v0 v3 v5 v6 h) 157 [(0, va_rf v0), (3, .long v3), (5, .int v5), (6, .long v6)] [] h := by
  unfold f_M_substitute_b157
  refine gk_aload_n (pc := 157) 0 d_M_substitute_157 rfl ?_
  refine gk_iconst (pc := 158) (2 : Int32) d_M_substitute_158 rfl ?_
  refine gk_lconst (pc := 159) (0 : Int64) d_M_substitute_159 rfl ?_
  refine gk_aload_n (pc := 160) 0 d_M_substitute_160 rfl ?_
  refine gk_getR (pc := 161) 7 14 d_M_substitute_161 rfl (Nat.le_of_ble_eq_true rfl) tw_1659 fun x1 => ?_
  refine gk_iconst (pc := 164) (2 : Int32) d_M_substitute_164 rfl ?_
  refine gk_iald (pc := 165) d_M_substitute_165 fun x2 => ?_
  refine gk_i2l (pc := 166) d_M_substitute_166 ?_
  refine gk_callV (pc := 167) (d := (d + 4)) (w' := gv_V) (as := [.int (2 : Int32), .long (0 : Int64), .long (Int32.toInt64 x2)]) (n := 3) 7 d_M_substitute_167 rfl rfl rfl rfl (Nat.le_of_ble_eq_true rfl) tw_2084 tw_2086 tw_72 tw_99 cw_M_addPart hy_M_addPart (Nat.le_of_ble_eq_true rfl) (p_M_addPart (d + 2) v0 (2 : Int32) (0 : Int64) (Int32.toInt64 x2) h) fun _ h1 => ?_
  refine gk_iload (pc := 170) 2 d_M_substitute_170 rfl ?_
  refine gk_aload_n (pc := 172) 0 d_M_substitute_172 rfl ?_
  refine gk_getR (pc := 173) 7 14 d_M_substitute_173 rfl (Nat.le_of_ble_eq_true rfl) tw_1659 fun x3 => ?_
  refine gk_iconst (pc := 176) (1 : Int32) d_M_substitute_176 rfl ?_
  refine gk_iald (pc := 177) d_M_substitute_177 fun x4 => ?_
  refine gk_iadd (pc := 178) d_M_substitute_178 ?_
  refine gk_topI (pc := 179) fun x5 => ?_
  refine gk_istore (pc := 179) (L' := [(5, .int x5), (0, va_rf v0), (3, .long v3), (6, .long v6)]) d_M_substitute_179 (Nat.le_of_ble_eq_true rfl) rfl ?_
  refine gk_goto (pc := 181) 222 d_M_substitute_181 rfl ?_
  refine gk_weak [1, 2, 0, 3] (L' := [(0, va_rf v0), (3, .long v3), (5, .int x5), (6, .long v6)]) rfl ?_
  exact p_M_substitute_b222 d b78 q78 v0 v3 x5 v6 h1
theorem p_M_substitute_b137 (d : Nat) (b78 : Option Nat → Int64 → Int32 → Int64 → gk_H → Option (Unit × gk_H)) (q78 : ∀ (v0 : Option Nat) (v3 : Int64) (v5 : Int32) (v6 : Int64) (h : gk_H), gk_P gw_V (d + 5) y_M_substitute b_M_substitute 10 none [] (b78 v0 v3 v5 v6 h) 78 [(0, va_rf v0), (3, .long v3), (5, .int v5), (6, .long v6)] [] h) (v0 : Option Nat) (v3 : Int64) (v5 : Int32) (v8 : Int32) (s0 : Int64) (h : gk_H) : gk_P gw_V (d + 5) y_M_substitute b_M_substitute 10 none [] (f_M_substitute_b137 b78 v0 v3 v5 v8 s0 h) 137 [(0, va_rf v0), (3, .long v3), (5, .int v5), (8, .int v8)] [.long s0] h := by
  unfold f_M_substitute_b137
  refine gk_lstore (pc := 137) (L' := [(6, .long s0), (0, va_rf v0), (3, .long v3), (5, .int v5), (8, .int v8)]) d_M_substitute_137 (Nat.le_of_ble_eq_true rfl) rfl ?_
  refine gk_iload (pc := 139) 4 d_M_substitute_139 rfl ?_
  refine gk_if_eq (pc := 141) 184 d_M_substitute_141 rfl (fun _ => ?_) (fun _ => ?_)
  · refine gk_weak [1, 2, 3, 0, 4] (L' := [(0, va_rf v0), (3, .long v3), (5, .int v5), (6, .long s0), (8, .int v8)]) rfl ?_
    exact p_M_substitute_b184 d b78 q78 v0 v3 v5 s0 v8 h
  · refine gk_lload_n (pc := 144) 2 d_M_substitute_144 rfl ?_
    refine gk_lconst (pc := 145) (0 : Int64) d_M_substitute_145 rfl ?_
    refine gk_lcmp (pc := 146) d_M_substitute_146 ?_
    refine gk_if_eq (pc := 147) 157 d_M_substitute_147 rfl (fun _ => ?_) (fun _ => ?_)
    · refine gk_weak [1, 2, 3, 0] (L' := [(0, va_rf v0), (3, .long v3), (5, .int v5), (6, .long s0)]) rfl ?_
      exact p_M_substitute_b157 d b78 q78 v0 v3 v5 s0 h
    · refine gk_lload_n (pc := 150) 2 d_M_substitute_150 rfl ?_
      refine gk_lload (pc := 151) 0 d_M_substitute_151 rfl ?_
      refine gk_lcmp (pc := 153) d_M_substitute_153 ?_
      refine gk_if_ne (pc := 154) 184 d_M_substitute_154 rfl (fun _ => ?_) (fun _ => ?_)
      · refine gk_weak [1, 2, 3, 0] (L' := [(0, va_rf v0), (3, .long v3), (5, .int v5), (6, .long s0)]) rfl ?_
        exact p_M_substitute_b157 d b78 q78 v0 v3 v5 s0 h
      · refine gk_weak [1, 2, 3, 0, 4] (L' := [(0, va_rf v0), (3, .long v3), (5, .int v5), (6, .long s0), (8, .int v8)]) rfl ?_
        exact p_M_substitute_b184 d b78 q78 v0 v3 v5 s0 v8 h
theorem p_M_substitute_b121 (d : Nat) (b78 : Option Nat → Int64 → Int32 → Int64 → gk_H → Option (Unit × gk_H)) (q78 : ∀ (v0 : Option Nat) (v3 : Int64) (v5 : Int32) (v6 : Int64) (h : gk_H), gk_P gw_V (d + 5) y_M_substitute b_M_substitute 10 none [] (b78 v0 v3 v5 v6 h) 78 [(0, va_rf v0), (3, .long v3), (5, .int v5), (6, .long v6)] [] h) (v0 : Option Nat) (v3 : Int64) (v5 : Int32) (v6 : Int64) (s0 : Int32) (h : gk_H) : gk_P gw_V (d + 5) y_M_substitute b_M_substitute 10 none [] (f_M_substitute_b121 b78 v0 v3 v5 v6 s0 h) 121 [(0, va_rf v0), (3, .long v3), (5, .int v5), (6, .long v6)] [.int s0] h := by
  unfold f_M_substitute_b121
  refine gk_istore (pc := 121) (L' := [(8, .int s0), (0, va_rf v0), (3, .long v3), (5, .int v5), (6, .long v6)]) d_M_substitute_121 (Nat.le_of_ble_eq_true rfl) rfl ?_
  refine gk_iload (pc := 123) 0 d_M_substitute_123 rfl ?_
  refine gk_if_eq (pc := 125) 135 d_M_substitute_125 rfl (fun _ => ?_) (fun _ => ?_)
  · refine gk_lload (pc := 135) 4 d_M_substitute_135 rfl ?_
    refine gk_weak [1, 2, 3, 0] (L' := [(0, va_rf v0), (3, .long v3), (5, .int v5), (8, .int s0)]) rfl ?_
    exact p_M_substitute_b137 d b78 q78 v0 v3 v5 s0 v6 h
  · refine gk_lload (pc := 128) 4 d_M_substitute_128 rfl ?_
    refine gk_lconst (pc := 130) (1 : Int64) d_M_substitute_130 rfl ?_
    refine gk_ladd (pc := 131) d_M_substitute_131 ?_
    refine gk_goto (pc := 132) 137 d_M_substitute_132 rfl ?_
    refine gk_weak [1, 2, 3, 0] (L' := [(0, va_rf v0), (3, .long v3), (5, .int v5), (8, .int s0)]) rfl ?_
    exact p_M_substitute_b137 d b78 q78 v0 v3 v5 s0 (v6 + (1 : Int64)) h
theorem p_M_substitute_b120 (d : Nat) (b78 : Option Nat → Int64 → Int32 → Int64 → gk_H → Option (Unit × gk_H)) (q78 : ∀ (v0 : Option Nat) (v3 : Int64) (v5 : Int32) (v6 : Int64) (h : gk_H), gk_P gw_V (d + 5) y_M_substitute b_M_substitute 10 none [] (b78 v0 v3 v5 v6 h) 78 [(0, va_rf v0), (3, .long v3), (5, .int v5), (6, .long v6)] [] h) (v0 : Option Nat) (v3 : Int64) (v5 : Int32) (v6 : Int64) (h : gk_H) : gk_P gw_V (d + 5) y_M_substitute b_M_substitute 10 none [] (f_M_substitute_b120 b78 v0 v3 v5 v6 h) 120 [(0, va_rf v0), (3, .long v3), (5, .int v5), (6, .long v6)] [] h := by
  unfold f_M_substitute_b120
  refine gk_iconst (pc := 120) (0 : Int32) d_M_substitute_120 rfl ?_
  exact p_M_substitute_b121 d b78 q78 v0 v3 v5 v6 (0 : Int32) h
theorem p_M_substitute_b78 (d : Nat)  : ∀ (fu : Nat) (v0 : Option Nat) (v3 : Int64) (v5 : Int32) (v6 : Int64) (h : gk_H), gk_P gw_V (d + 5) y_M_substitute b_M_substitute 10 none [] (f_M_substitute_b78  fu v0 v3 v5 v6 h) 78 [(0, va_rf v0), (3, .long v3), (5, .int v5), (6, .long v6)] [] h := by
  intro fu
  induction fu with
  | zero => intros; exact gk_none
  | succ fu q78 =>
    intro v0 v3 v5 v6 h
    rw [f_M_substitute_b78]
    refine gk_iload (pc := 78) 2 d_M_substitute_78 rfl ?_
    refine gk_aload_n (pc := 80) 0 d_M_substitute_80 rfl ?_
    refine gk_getR (pc := 81) 7 14 d_M_substitute_81 rfl (Nat.le_of_ble_eq_true rfl) tw_1659 fun x1 => ?_
    refine gk_iconst (pc := 84) (0 : Int32) d_M_substitute_84 rfl ?_
    refine gk_iald (pc := 85) d_M_substitute_85 fun x2 => ?_
    refine gk_icmp_ge (pc := 86) 225 d_M_substitute_86 rfl (fun _ => ?_) (fun _ => ?_)
    · refine gk_weak [] (L' := []) rfl ?_
      exact p_M_substitute_b225 d h
    · refine gk_aload_n (pc := 89) 0 d_M_substitute_89 rfl ?_
      refine gk_getI (pc := 90) 7 11 d_M_substitute_90 rfl (Nat.le_of_ble_eq_true rfl) tw_1656 fun x3 => ?_
      refine gk_if_ne (pc := 93) 225 d_M_substitute_93 rfl (fun _ => ?_) (fun _ => ?_)
      · refine gk_aload_n (pc := 96) 0 d_M_substitute_96 rfl ?_
        refine gk_getR (pc := 97) 7 14 d_M_substitute_97 rfl (Nat.le_of_ble_eq_true rfl) tw_1659 fun x4 => ?_
        refine gk_iconst (pc := 100) (1 : Int32) d_M_substitute_100 rfl ?_
        refine gk_iald (pc := 101) d_M_substitute_101 fun x5 => ?_
        refine gk_if_le (pc := 102) 120 d_M_substitute_102 rfl (fun _ => ?_) (fun _ => ?_)
        · exact p_M_substitute_b120 d (f_M_substitute_b78 fu) q78 v0 v3 v5 v6 h
        · refine gk_aload_n (pc := 105) 0 d_M_substitute_105 rfl ?_
          refine gk_iconst (pc := 106) (0 : Int32) d_M_substitute_106 rfl ?_
          refine gk_iload (pc := 107) 2 d_M_substitute_107 rfl ?_
          refine gk_iconst (pc := 109) (1 : Int32) d_M_substitute_109 rfl ?_
          refine gk_callV (pc := 110) (d := (d + 4)) (w' := gv_I) (as := [.int (0 : Int32), .int v5, .int (1 : Int32)]) (n := 3) 7 d_M_substitute_110 rfl rfl rfl rfl (Nat.le_of_ble_eq_true rfl) tw_2092 tw_2094 tw_74 tw_99 cw_M_isAt hy_M_isAt (Nat.le_of_ble_eq_true rfl) (p_M_isAt (d + 4) v0 (0 : Int32) v5 (1 : Int32) h) fun x6 h1 => ?_
          refine gk_if_eq (pc := 113) 120 d_M_substitute_113 rfl (fun _ => ?_) (fun _ => ?_)
          · exact p_M_substitute_b120 d (f_M_substitute_b78 fu) q78 v0 v3 v5 v6 h1
          · refine gk_iconst (pc := 116) (1 : Int32) d_M_substitute_116 rfl ?_
            refine gk_goto (pc := 117) 121 d_M_substitute_117 rfl ?_
            exact p_M_substitute_b121 d (f_M_substitute_b78 fu) q78 v0 v3 v5 v6 (1 : Int32) h1
      · refine gk_weak [] (L' := []) rfl ?_
        exact p_M_substitute_b225 d h
theorem p_M_substitute_b56 (d : Nat)  (v0 : Option Nat) (v3 : Int64) (h : gk_H) : gk_P gw_V (d + 5) y_M_substitute b_M_substitute 10 none [] (f_M_substitute_b56  v0 v3 h) 56 [(0, va_rf v0), (3, .long v3)] [] h := by
  unfold f_M_substitute_b56
  refine gk_aload_n (pc := 56) 0 d_M_substitute_56 rfl ?_
  refine gk_getI (pc := 57) 7 11 d_M_substitute_57 rfl (Nat.le_of_ble_eq_true rfl) tw_1656 fun x1 => ?_
  refine gk_if_le (pc := 60) 64 d_M_substitute_60 rfl (fun _ => ?_) (fun _ => ?_)
  · refine gk_aload_n (pc := 64) 0 d_M_substitute_64 rfl ?_
    refine gk_bipush (pc := 65) (16 : Int32) d_M_substitute_65 rfl ?_
    refine gk_iconst (pc := 67) (2 : Int32) d_M_substitute_67 rfl ?_
    refine gk_dconst0 (pc := 68) d_M_substitute_68 ?_
    refine gk_callV (pc := 69) (d := (d + 4)) (w' := gv_V) (as := [.int (16 : Int32), .int (2 : Int32), .double (0x0000000000000000)]) (n := 3) 7 d_M_substitute_69 rfl rfl rfl rfl (Nat.le_of_ble_eq_true rfl) tw_1733 tw_1735 tw_15 tw_99 cw_M_setSingle hy_M_setSingle (Nat.le_of_ble_eq_true rfl) (p_M_setSingle (d + 4) v0 (16 : Int32) (2 : Int32) (0x0000000000000000) h) fun _ h1 => ?_
    refine gk_iconst (pc := 72) (0 : Int32) d_M_substitute_72 rfl ?_
    refine gk_istore (pc := 73) (L' := [(5, .int (0 : Int32)), (0, va_rf v0), (3, .long v3)]) d_M_substitute_73 (Nat.le_of_ble_eq_true rfl) rfl ?_
    refine gk_lconst (pc := 75) (0 : Int64) d_M_substitute_75 rfl ?_
    refine gk_lstore (pc := 76) (L' := [(6, .long (0 : Int64)), (5, .int (0 : Int32)), (0, va_rf v0), (3, .long v3)]) d_M_substitute_76 (Nat.le_of_ble_eq_true rfl) rfl ?_
    refine gk_weak [2, 3, 1, 0] (L' := [(0, va_rf v0), (3, .long v3), (5, .int (0 : Int32)), (6, .long (0 : Int64))]) rfl ?_
    exact p_M_substitute_b78 d gk_F v0 v3 (0 : Int32) (0 : Int64) h1
  · exact gk_vret (pc := 63) rfl d_M_substitute_63 rfl
theorem p_M_substitute_b32 (d : Nat)  (v0 : Option Nat) (v2 : Int32) (s0 : Int64) (h : gk_H) : gk_P gw_V (d + 5) y_M_substitute b_M_substitute 10 none [] (f_M_substitute_b32  v0 v2 s0 h) 32 [(0, va_rf v0), (2, .int v2)] [.long s0] h := by
  unfold f_M_substitute_b32
  refine gk_lstore_n (pc := 32) (L' := [(3, .long s0), (0, va_rf v0), (2, .int v2)]) d_M_substitute_32 (Nat.le_of_ble_eq_true rfl) rfl ?_
  refine gk_aload_n (pc := 33) 1 d_M_substitute_33 rfl ?_
  refine gk_getI (pc := 34) 7 11 d_M_substitute_34 rfl (Nat.le_of_ble_eq_true rfl) tw_1656 fun x1 => ?_
  refine gk_if_ne (pc := 37) 56 d_M_substitute_37 rfl (fun _ => ?_) (fun _ => ?_)
  · refine gk_iload_n (pc := 40) 2 d_M_substitute_40 rfl ?_
    refine gk_iconst (pc := 41) (4 : Int32) d_M_substitute_41 rfl ?_
    refine gk_icmp_ne (pc := 42) 56 d_M_substitute_42 rfl (fun _ => ?_) (fun _ => ?_)
    · refine gk_lload_n (pc := 45) 0 d_M_substitute_45 rfl ?_
      refine gk_lconst (pc := 46) (1 : Int64) d_M_substitute_46 rfl ?_
      refine gk_lcmp (pc := 47) d_M_substitute_47 ?_
      refine gk_if_ge (pc := 48) 56 d_M_substitute_48 rfl (fun _ => ?_) (fun _ => ?_)
      · refine gk_weak [1, 0] (L' := [(0, va_rf v0), (3, .long s0)]) rfl ?_
        exact p_M_substitute_b56 d v0 s0 h
      · refine gk_aload_n (pc := 51) 1 d_M_substitute_51 rfl ?_
        refine gk_iconst (pc := 52) (3 : Int32) d_M_substitute_52 rfl ?_
        refine gk_callV (pc := 53) (d := (d + 4)) (w' := gv_V) (as := [.int (3 : Int32)]) (n := 1) 7 d_M_substitute_53 rfl rfl rfl rfl (Nat.le_of_ble_eq_true rfl) tw_1805 tw_1807 tw_21 tw_99 cw_M_fail hy_M_fail (Nat.le_of_ble_eq_true rfl) (p_M_fail (d + 4) v0 (3 : Int32) h) fun _ h1 => ?_
        refine gk_weak [1, 0] (L' := [(0, va_rf v0), (3, .long s0)]) rfl ?_
        exact p_M_substitute_b56 d v0 s0 h1
    · refine gk_weak [1, 0] (L' := [(0, va_rf v0), (3, .long s0)]) rfl ?_
      exact p_M_substitute_b56 d v0 s0 h
  · refine gk_weak [1, 0] (L' := [(0, va_rf v0), (3, .long s0)]) rfl ?_
    exact p_M_substitute_b56 d v0 s0 h
theorem w_M_substitute (d : Nat) (a0 : Option Nat) (a1 : Int32) (a2 : Int32) (h : gk_H) : gk_P gw_V (d + 5) y_M_substitute b_M_substitute 10 none [] (f_M_substitute a0 a1 a2 h) 0 [(0, va_rf a0), (1, .int a1), (2, .int a2)] [] h := by
  unfold f_M_substitute
  refine gk_aload_n (pc := 0) 0 d_M_substitute_0 rfl ?_
  refine gk_iload_n (pc := 1) 1 d_M_substitute_1 rfl ?_
  refine gk_iconst (pc := 2) (1 : Int32) d_M_substitute_2 rfl ?_
  refine gk_iadd (pc := 3) d_M_substitute_3 ?_
  refine gk_iconst (pc := 4) (1 : Int32) d_M_substitute_4 rfl ?_
  refine gk_callV (pc := 5) (d := (d + 4)) (w' := gv_V) (as := [.int (a1 + (1 : Int32)), .int (1 : Int32)]) (n := 2) 7 d_M_substitute_5 rfl rfl rfl rfl (Nat.le_of_ble_eq_true rfl) tw_1830 tw_1832 tw_25 tw_99 cw_M_wantText hy_M_wantText (Nat.le_of_ble_eq_true rfl) (p_M_wantText (d + 1) a0 (a1 + (1 : Int32)) (1 : Int32) h) fun _ h1 => ?_
  refine gk_aload_n (pc := 8) 0 d_M_substitute_8 rfl ?_
  refine gk_iload_n (pc := 9) 1 d_M_substitute_9 rfl ?_
  refine gk_iconst (pc := 10) (2 : Int32) d_M_substitute_10 rfl ?_
  refine gk_iadd (pc := 11) d_M_substitute_11 ?_
  refine gk_iconst (pc := 12) (2 : Int32) d_M_substitute_12 rfl ?_
  refine gk_callV (pc := 13) (d := (d + 4)) (w' := gv_V) (as := [.int (a1 + (2 : Int32)), .int (2 : Int32)]) (n := 2) 7 d_M_substitute_13 rfl rfl rfl rfl (Nat.le_of_ble_eq_true rfl) tw_1830 tw_1832 tw_25 tw_99 cw_M_wantText hy_M_wantText (Nat.le_of_ble_eq_true rfl) (p_M_wantText (d + 1) a0 (a1 + (2 : Int32)) (2 : Int32) h1) fun _ h2 => ?_
  refine gk_iload_n (pc := 16) 2 d_M_substitute_16 rfl ?_
  refine gk_iconst (pc := 17) (4 : Int32) d_M_substitute_17 rfl ?_
  refine gk_icmp_ne (pc := 18) 31 d_M_substitute_18 rfl (fun _ => ?_) (fun _ => ?_)
  · refine gk_aload_n (pc := 21) 0 d_M_substitute_21 rfl ?_
    refine gk_iload_n (pc := 22) 1 d_M_substitute_22 rfl ?_
    refine gk_iconst (pc := 23) (3 : Int32) d_M_substitute_23 rfl ?_
    refine gk_iadd (pc := 24) d_M_substitute_24 ?_
    refine gk_callV (pc := 25) (d := (d + 4)) (w' := gv_J) (as := [.int (a1 + (3 : Int32))]) (n := 1) 7 d_M_substitute_25 rfl rfl rfl rfl (Nat.le_of_ble_eq_true rfl) tw_1954 tw_1956 tw_45 tw_99 cw_M_wantWhole hy_M_wantWhole (Nat.le_of_ble_eq_true rfl) (p_M_wantWhole d a0 (a1 + (3 : Int32)) h2) fun x1 h3 => ?_
    refine gk_goto (pc := 28) 32 d_M_substitute_28 rfl ?_
    refine gk_weak [0, 2] (L' := [(0, va_rf a0), (2, .int a2)]) rfl ?_
    exact p_M_substitute_b32 d a0 a2 x1 h3
  · refine gk_lconst (pc := 31) (0 : Int64) d_M_substitute_31 rfl ?_
    refine gk_weak [0, 2] (L' := [(0, va_rf a0), (2, .int a2)]) rfl ?_
    exact p_M_substitute_b32 d a0 a2 (0 : Int64) h2
theorem p_M_substitute (d : Nat) (a0 : Option Nat) (a1 : Int32) (a2 : Int32) (h : gk_H) : ∀ r h1, f_M_substitute a0 a1 a2 h = some (r, h1) → gk_M (d + 5) y_M_substitute b_M_substitute 10 none [va_rf a0, .int a1, .int a2] h (.inl (gv_V r)) h1 :=
  fun r h1 e => gk_M_of2 (by decide +kernel) (by simp [lv_args, gk_cat_rf, gk_catI, gk_catJ, gk_catD, gv_V, gv_I, gv_J, gv_D, gv_R]) (by simp [lg_sl, gk_cat_rf, gk_catI, gk_catJ, gk_catD, gv_V, gv_I, gv_J, gv_D, gv_R]) (w_M_substitute d a0 a1 a2 h r h1 e)
theorem d_M_lookAt_0 : decode b_M_lookAt 0 = .ok (.iload_n 1, 1) := by decide +kernel
theorem d_M_lookAt_1 : decode b_M_lookAt 1 = .ok (.bipush 70, 2) := by decide +kernel
theorem d_M_lookAt_3 : decode b_M_lookAt 3 = .ok (.if_icmp .ne 46, 3) := by decide +kernel
theorem d_M_lookAt_6 : decode b_M_lookAt 6 = .ok (.aload_n 0, 1) := by decide +kernel
theorem d_M_lookAt_7 : decode b_M_lookAt 7 = .ok (.iload_n 2, 1) := by decide +kernel
theorem d_M_lookAt_8 : decode b_M_lookAt 8 = .ok (.iconst 1, 1) := by decide +kernel
theorem d_M_lookAt_9 : decode b_M_lookAt 9 = .ok (.iadd, 1) := by decide +kernel
theorem d_M_lookAt_10 : decode b_M_lookAt 10 = .ok (.iconst 1, 1) := by decide +kernel
theorem d_M_lookAt_11 : decode b_M_lookAt 11 = .ok (.invokevirtual 197, 3) := by decide +kernel
theorem d_M_lookAt_14 : decode b_M_lookAt 14 = .ok (.aload_n 0, 1) := by decide +kernel
theorem d_M_lookAt_15 : decode b_M_lookAt 15 = .ok (.aload_n 0, 1) := by decide +kernel
theorem d_M_lookAt_16 : decode b_M_lookAt 16 = .ok (.getfield 40, 3) := by decide +kernel
theorem d_M_lookAt_19 : decode b_M_lookAt 19 = .ok (.iconst 0, 1) := by decide +kernel
theorem d_M_lookAt_20 : decode b_M_lookAt 20 = .ok (.iaload, 1) := by decide +kernel
theorem d_M_lookAt_21 : decode b_M_lookAt 21 = .ok (.aload_n 0, 1) := by decide +kernel
theorem d_M_lookAt_22 : decode b_M_lookAt 22 = .ok (.getfield 40, 3) := by decide +kernel
theorem d_M_lookAt_25 : decode b_M_lookAt 25 = .ok (.iconst 1, 1) := by decide +kernel
theorem d_M_lookAt_26 : decode b_M_lookAt 26 = .ok (.iaload, 1) := by decide +kernel
theorem d_M_lookAt_27 : decode b_M_lookAt 27 = .ok (.if_icmp .ne 17, 3) := by decide +kernel
theorem d_M_lookAt_30 : decode b_M_lookAt 30 = .ok (.aload_n 0, 1) := by decide +kernel
theorem d_M_lookAt_31 : decode b_M_lookAt 31 = .ok (.iconst 0, 1) := by decide +kernel
theorem d_M_lookAt_32 : decode b_M_lookAt 32 = .ok (.iconst 0, 1) := by decide +kernel
theorem d_M_lookAt_33 : decode b_M_lookAt 33 = .ok (.iconst 1, 1) := by decide +kernel
theorem d_M_lookAt_34 : decode b_M_lookAt 34 = .ok (.invokevirtual 405, 3) := by decide +kernel
theorem d_M_lookAt_37 : decode b_M_lookAt 37 = .ok (.ifCond .eq 7, 3) := by decide +kernel
theorem d_M_lookAt_40 : decode b_M_lookAt 40 = .ok (.iconst 1, 1) := by decide +kernel
theorem d_M_lookAt_41 : decode b_M_lookAt 41 = .ok (.goto 4, 3) := by decide +kernel
theorem d_M_lookAt_44 : decode b_M_lookAt 44 = .ok (.iconst 0, 1) := by decide +kernel
theorem d_M_lookAt_45 : decode b_M_lookAt 45 = .ok (.invokevirtual 193, 3) := by decide +kernel
theorem d_M_lookAt_48 : decode b_M_lookAt 48 = .ok (.return_, 1) := by decide +kernel
theorem d_M_lookAt_49 : decode b_M_lookAt 49 = .ok (.aload_n 0, 1) := by decide +kernel
theorem d_M_lookAt_50 : decode b_M_lookAt 50 = .ok (.getfield 62, 3) := by decide +kernel
theorem d_M_lookAt_53 : decode b_M_lookAt 53 = .ok (.ifCond .le 4, 3) := by decide +kernel
theorem d_M_lookAt_56 : decode b_M_lookAt 56 = .ok (.return_, 1) := by decide +kernel
theorem d_M_lookAt_57 : decode b_M_lookAt 57 = .ok (.iload_n 1, 1) := by decide +kernel
theorem d_M_lookAt_58 : decode b_M_lookAt 58 = .ok (.bipush 72, 2) := by decide +kernel
theorem d_M_lookAt_60 : decode b_M_lookAt 60 = .ok (.if_icmp .ne 32, 3) := by decide +kernel
theorem d_M_lookAt_63 : decode b_M_lookAt 63 = .ok (.aload_n 0, 1) := by decide +kernel
theorem d_M_lookAt_64 : decode b_M_lookAt 64 = .ok (.getfield 40, 3) := by decide +kernel
theorem d_M_lookAt_67 : decode b_M_lookAt 67 = .ok (.iconst 0, 1) := by decide +kernel
theorem d_M_lookAt_68 : decode b_M_lookAt 68 = .ok (.iaload, 1) := by decide +kernel
theorem d_M_lookAt_69 : decode b_M_lookAt 69 = .ok (.ifCond .ne 11, 3) := by decide +kernel
theorem d_M_lookAt_72 : decode b_M_lookAt 72 = .ok (.aload_n 0, 1) := by decide +kernel
theorem d_M_lookAt_73 : decode b_M_lookAt 73 = .ok (.iconst 3, 1) := by decide +kernel
theorem d_M_lookAt_74 : decode b_M_lookAt 74 = .ok (.invokevirtual 58, 3) := by decide +kernel
theorem d_M_lookAt_77 : decode b_M_lookAt 77 = .ok (.goto 14, 3) := by decide +kernel
theorem d_M_lookAt_80 : decode b_M_lookAt 80 = .ok (.aload_n 0, 1) := by decide +kernel
theorem d_M_lookAt_81 : decode b_M_lookAt 81 = .ok (.aload_n 0, 1) := by decide +kernel
theorem d_M_lookAt_82 : decode b_M_lookAt 82 = .ok (.getfield 43, 3) := by decide +kernel
theorem d_M_lookAt_85 : decode b_M_lookAt 85 = .ok (.iconst 0, 1) := by decide +kernel
theorem d_M_lookAt_86 : decode b_M_lookAt 86 = .ok (.baload, 1) := by decide +kernel
theorem d_M_lookAt_87 : decode b_M_lookAt 87 = .ok (.i2d, 1) := by decide +kernel
theorem d_M_lookAt_88 : decode b_M_lookAt 88 = .ok (.invokevirtual 207, 3) := by decide +kernel
theorem d_M_lookAt_91 : decode b_M_lookAt 91 = .ok (.return_, 1) := by decide +kernel
theorem d_M_lookAt_92 : decode b_M_lookAt 92 = .ok (.aload_n 0, 1) := by decide +kernel
theorem d_M_lookAt_93 : decode b_M_lookAt 93 = .ok (.aload_n 0, 1) := by decide +kernel
theorem d_M_lookAt_94 : decode b_M_lookAt 94 = .ok (.getfield 43, 3) := by decide +kernel
theorem d_M_lookAt_97 : decode b_M_lookAt 97 = .ok (.iconst 0, 1) := by decide +kernel
theorem d_M_lookAt_98 : decode b_M_lookAt 98 = .ok (.aload_n 0, 1) := by decide +kernel
theorem d_M_lookAt_99 : decode b_M_lookAt 99 = .ok (.getfield 40, 3) := by decide +kernel
theorem d_M_lookAt_102 : decode b_M_lookAt 102 = .ok (.iconst 0, 1) := by decide +kernel
theorem d_M_lookAt_103 : decode b_M_lookAt 103 = .ok (.iaload, 1) := by decide +kernel
theorem d_M_lookAt_104 : decode b_M_lookAt 104 = .ok (.invokevirtual 133, 3) := by decide +kernel
theorem d_M_lookAt_107 : decode b_M_lookAt 107 = .ok (.ifCond .eq 14, 3) := by decide +kernel
theorem d_M_lookAt_110 : decode b_M_lookAt 110 = .ok (.aload_n 0, 1) := by decide +kernel
theorem d_M_lookAt_111 : decode b_M_lookAt 111 = .ok (.aload_n 0, 1) := by decide +kernel
theorem d_M_lookAt_112 : decode b_M_lookAt 112 = .ok (.getfield 103, 3) := by decide +kernel
theorem d_M_lookAt_115 : decode b_M_lookAt 115 = .ok (.invokevirtual 207, 3) := by decide +kernel
theorem d_M_lookAt_118 : decode b_M_lookAt 118 = .ok (.goto 8, 3) := by decide +kernel
theorem d_M_lookAt_121 : decode b_M_lookAt 121 = .ok (.aload_n 0, 1) := by decide +kernel
theorem d_M_lookAt_122 : decode b_M_lookAt 122 = .ok (.iconst 3, 1) := by decide +kernel
theorem d_M_lookAt_123 : decode b_M_lookAt 123 = .ok (.invokevirtual 58, 3) := by decide +kernel
theorem d_M_lookAt_126 : decode b_M_lookAt 126 = .ok (.return_, 1) := by decide +kernel
theorem p_M_lookAt_b126 (d : Nat)   (h : gk_H) : gk_P gw_V (d + 4) y_M_lookAt b_M_lookAt 3 none [] (f_M_lookAt_b126   h) 126 [] [] h := by
  unfold f_M_lookAt_b126
  exact gk_vret (pc := 126) rfl d_M_lookAt_126 rfl
theorem p_M_lookAt_b91 (d : Nat)   (h : gk_H) : gk_P gw_V (d + 4) y_M_lookAt b_M_lookAt 3 none [] (f_M_lookAt_b91   h) 91 [] [] h := by
  unfold f_M_lookAt_b91
  exact gk_vret (pc := 91) rfl d_M_lookAt_91 rfl
theorem p_M_lookAt_b45 (d : Nat)  (s0 : Option Nat) (s1 : Int32) (h : gk_H) : gk_P gw_V (d + 4) y_M_lookAt b_M_lookAt 3 none [] (f_M_lookAt_b45  s0 s1 h) 45 [] [.int s1, va_rf s0] h := by
  unfold f_M_lookAt_b45
  refine gk_callV (pc := 45) (d := (d + 3)) (w' := gv_V) (as := [.int s1]) (n := 1) 7 d_M_lookAt_45 rfl rfl rfl rfl (Nat.le_of_ble_eq_true rfl) tw_1826 tw_1828 tw_24 tw_99 cw_M_answerTruth hy_M_answerTruth (Nat.le_of_ble_eq_true rfl) (p_M_answerTruth (d + 2) s0 s1 h) fun _ h1 => ?_
  exact gk_vret (pc := 48) rfl d_M_lookAt_48 rfl
theorem p_M_lookAt_b44 (d : Nat)  (s0 : Option Nat) (h : gk_H) : gk_P gw_V (d + 4) y_M_lookAt b_M_lookAt 3 none [] (f_M_lookAt_b44  s0 h) 44 [] [va_rf s0] h := by
  unfold f_M_lookAt_b44
  refine gk_iconst (pc := 44) (0 : Int32) d_M_lookAt_44 rfl ?_
  exact p_M_lookAt_b45 d s0 (0 : Int32) h
theorem w_M_lookAt (d : Nat) (a0 : Option Nat) (a1 : Int32) (a2 : Int32) (h : gk_H) : gk_P gw_V (d + 4) y_M_lookAt b_M_lookAt 3 none [] (f_M_lookAt a0 a1 a2 h) 0 [(0, va_rf a0), (1, .int a1), (2, .int a2)] [] h := by
  unfold f_M_lookAt
  refine gk_iload_n (pc := 0) 1 d_M_lookAt_0 rfl ?_
  refine gk_bipush (pc := 1) (70 : Int32) d_M_lookAt_1 rfl ?_
  refine gk_icmp_ne (pc := 3) 49 d_M_lookAt_3 rfl (fun _ => ?_) (fun _ => ?_)
  · refine gk_aload_n (pc := 6) 0 d_M_lookAt_6 rfl ?_
    refine gk_iload_n (pc := 7) 2 d_M_lookAt_7 rfl ?_
    refine gk_iconst (pc := 8) (1 : Int32) d_M_lookAt_8 rfl ?_
    refine gk_iadd (pc := 9) d_M_lookAt_9 ?_
    refine gk_iconst (pc := 10) (1 : Int32) d_M_lookAt_10 rfl ?_
    refine gk_callV (pc := 11) (d := (d + 3)) (w' := gv_V) (as := [.int (a2 + (1 : Int32)), .int (1 : Int32)]) (n := 2) 7 d_M_lookAt_11 rfl rfl rfl rfl (Nat.le_of_ble_eq_true rfl) tw_1830 tw_1832 tw_25 tw_99 cw_M_wantText hy_M_wantText (Nat.le_of_ble_eq_true rfl) (p_M_wantText d a0 (a2 + (1 : Int32)) (1 : Int32) h) fun _ h1 => ?_
    refine gk_aload_n (pc := 14) 0 d_M_lookAt_14 rfl ?_
    refine gk_aload_n (pc := 15) 0 d_M_lookAt_15 rfl ?_
    refine gk_getR (pc := 16) 7 14 d_M_lookAt_16 rfl (Nat.le_of_ble_eq_true rfl) tw_1659 fun x1 => ?_
    refine gk_iconst (pc := 19) (0 : Int32) d_M_lookAt_19 rfl ?_
    refine gk_iald (pc := 20) d_M_lookAt_20 fun x2 => ?_
    refine gk_aload_n (pc := 21) 0 d_M_lookAt_21 rfl ?_
    refine gk_getR (pc := 22) 7 14 d_M_lookAt_22 rfl (Nat.le_of_ble_eq_true rfl) tw_1659 fun x3 => ?_
    refine gk_iconst (pc := 25) (1 : Int32) d_M_lookAt_25 rfl ?_
    refine gk_iald (pc := 26) d_M_lookAt_26 fun x4 => ?_
    refine gk_icmp_ne (pc := 27) 44 d_M_lookAt_27 rfl (fun _ => ?_) (fun _ => ?_)
    · refine gk_aload_n (pc := 30) 0 d_M_lookAt_30 rfl ?_
      refine gk_iconst (pc := 31) (0 : Int32) d_M_lookAt_31 rfl ?_
      refine gk_iconst (pc := 32) (0 : Int32) d_M_lookAt_32 rfl ?_
      refine gk_iconst (pc := 33) (1 : Int32) d_M_lookAt_33 rfl ?_
      refine gk_callV (pc := 34) (d := (d + 3)) (w' := gv_I) (as := [.int (0 : Int32), .int (0 : Int32), .int (1 : Int32)]) (n := 3) 7 d_M_lookAt_34 rfl rfl rfl rfl (by simp [gk_cat_rf, gk_catI, gk_catJ, gk_catD, gv_V, gv_I, gv_J, gv_D, gv_R]) tw_2092 tw_2094 tw_74 tw_99 cw_M_isAt hy_M_isAt (Nat.le_of_ble_eq_true rfl) (p_M_isAt (d + 3) a0 (0 : Int32) (0 : Int32) (1 : Int32) h1) fun x5 h2 => ?_
      refine gk_if_eq (pc := 37) 44 d_M_lookAt_37 rfl (fun _ => ?_) (fun _ => ?_)
      · refine gk_weak [] (L' := []) rfl ?_
        exact p_M_lookAt_b44 d a0 h2
      · refine gk_iconst (pc := 40) (1 : Int32) d_M_lookAt_40 rfl ?_
        refine gk_goto (pc := 41) 45 d_M_lookAt_41 rfl ?_
        refine gk_weak [] (L' := []) rfl ?_
        exact p_M_lookAt_b45 d a0 (1 : Int32) h2
    · refine gk_weak [] (L' := []) rfl ?_
      exact p_M_lookAt_b44 d a0 h1
  · refine gk_aload_n (pc := 49) 0 d_M_lookAt_49 rfl ?_
    refine gk_getI (pc := 50) 7 11 d_M_lookAt_50 rfl (Nat.le_of_ble_eq_true rfl) tw_1656 fun x6 => ?_
    refine gk_if_le (pc := 53) 57 d_M_lookAt_53 rfl (fun _ => ?_) (fun _ => ?_)
    · refine gk_iload_n (pc := 57) 1 d_M_lookAt_57 rfl ?_
      refine gk_bipush (pc := 58) (72 : Int32) d_M_lookAt_58 rfl ?_
      refine gk_icmp_ne (pc := 60) 92 d_M_lookAt_60 rfl (fun _ => ?_) (fun _ => ?_)
      · refine gk_aload_n (pc := 63) 0 d_M_lookAt_63 rfl ?_
        refine gk_getR (pc := 64) 7 14 d_M_lookAt_64 rfl (Nat.le_of_ble_eq_true rfl) tw_1659 fun x7 => ?_
        refine gk_iconst (pc := 67) (0 : Int32) d_M_lookAt_67 rfl ?_
        refine gk_iald (pc := 68) d_M_lookAt_68 fun x8 => ?_
        refine gk_if_ne (pc := 69) 80 d_M_lookAt_69 rfl (fun _ => ?_) (fun _ => ?_)
        · refine gk_aload_n (pc := 72) 0 d_M_lookAt_72 rfl ?_
          refine gk_iconst (pc := 73) (3 : Int32) d_M_lookAt_73 rfl ?_
          refine gk_callV (pc := 74) (d := (d + 3)) (w' := gv_V) (as := [.int (3 : Int32)]) (n := 1) 7 d_M_lookAt_74 rfl rfl rfl rfl (Nat.le_of_ble_eq_true rfl) tw_1805 tw_1807 tw_21 tw_99 cw_M_fail hy_M_fail (Nat.le_of_ble_eq_true rfl) (p_M_fail (d + 3) a0 (3 : Int32) h) fun _ h3 => ?_
          refine gk_goto (pc := 77) 91 d_M_lookAt_77 rfl ?_
          refine gk_weak [] (L' := []) rfl ?_
          exact p_M_lookAt_b91 d h3
        · refine gk_aload_n (pc := 80) 0 d_M_lookAt_80 rfl ?_
          refine gk_aload_n (pc := 81) 0 d_M_lookAt_81 rfl ?_
          refine gk_getR (pc := 82) 7 15 d_M_lookAt_82 rfl (Nat.le_of_ble_eq_true rfl) tw_1660 fun x9 => ?_
          refine gk_iconst (pc := 85) (0 : Int32) d_M_lookAt_85 rfl ?_
          refine gk_bald (pc := 86) d_M_lookAt_86 fun x10 => ?_
          refine gk_i2d (pc := 87) d_M_lookAt_87 ?_
          refine gk_callV (pc := 88) (d := (d + 3)) (w' := gv_V) (as := [.double (FP.i2d x10)]) (n := 1) 7 d_M_lookAt_88 rfl rfl rfl rfl (Nat.le_of_ble_eq_true rfl) tw_1916 tw_1918 tw_38 tw_99 cw_M_answerNumber hy_M_answerNumber (Nat.le_of_ble_eq_true rfl) (p_M_answerNumber (d + 2) a0 (FP.i2d x10) h) fun _ h4 => ?_
          refine gk_weak [] (L' := []) rfl ?_
          exact p_M_lookAt_b91 d h4
      · refine gk_aload_n (pc := 92) 0 d_M_lookAt_92 rfl ?_
        refine gk_aload_n (pc := 93) 0 d_M_lookAt_93 rfl ?_
        refine gk_getR (pc := 94) 7 15 d_M_lookAt_94 rfl (Nat.le_of_ble_eq_true rfl) tw_1660 fun x11 => ?_
        refine gk_iconst (pc := 97) (0 : Int32) d_M_lookAt_97 rfl ?_
        refine gk_aload_n (pc := 98) 0 d_M_lookAt_98 rfl ?_
        refine gk_getR (pc := 99) 7 14 d_M_lookAt_99 rfl (Nat.le_of_ble_eq_true rfl) tw_1659 fun x12 => ?_
        refine gk_iconst (pc := 102) (0 : Int32) d_M_lookAt_102 rfl ?_
        refine gk_iald (pc := 103) d_M_lookAt_103 fun x13 => ?_
        refine gk_callV (pc := 104) (d := (d + 3)) (w' := gv_I) (as := [va_rf x11, .int (0 : Int32), .int x13]) (n := 3) 7 d_M_lookAt_104 rfl rfl rfl rfl (Nat.le_of_ble_eq_true rfl) tw_1876 tw_1878 tw_33 tw_99 cw_M_isNumeral hy_M_isNumeral (Nat.le_of_ble_eq_true rfl) (p_M_isNumeral (d + 2) a0 x11 (0 : Int32) x13 h) fun x14 h5 => ?_
        refine gk_if_eq (pc := 107) 121 d_M_lookAt_107 rfl (fun _ => ?_) (fun _ => ?_)
        · refine gk_aload_n (pc := 121) 0 d_M_lookAt_121 rfl ?_
          refine gk_iconst (pc := 122) (3 : Int32) d_M_lookAt_122 rfl ?_
          refine gk_callV (pc := 123) (d := (d + 3)) (w' := gv_V) (as := [.int (3 : Int32)]) (n := 1) 7 d_M_lookAt_123 rfl rfl rfl rfl (Nat.le_of_ble_eq_true rfl) tw_1805 tw_1807 tw_21 tw_99 cw_M_fail hy_M_fail (Nat.le_of_ble_eq_true rfl) (p_M_fail (d + 3) a0 (3 : Int32) h5) fun _ h6 => ?_
          refine gk_weak [] (L' := []) rfl ?_
          exact p_M_lookAt_b126 d h6
        · refine gk_aload_n (pc := 110) 0 d_M_lookAt_110 rfl ?_
          refine gk_aload_n (pc := 111) 0 d_M_lookAt_111 rfl ?_
          refine gk_getD (pc := 112) 7 16 d_M_lookAt_112 rfl (Nat.le_of_ble_eq_true rfl) tw_1661 fun x15 => ?_
          refine gk_callV (pc := 115) (d := (d + 3)) (w' := gv_V) (as := [.double x15]) (n := 1) 7 d_M_lookAt_115 rfl rfl rfl rfl (Nat.le_of_ble_eq_true rfl) tw_1916 tw_1918 tw_38 tw_99 cw_M_answerNumber hy_M_answerNumber (Nat.le_of_ble_eq_true rfl) (p_M_answerNumber (d + 2) a0 x15 h5) fun _ h7 => ?_
          refine gk_goto (pc := 118) 126 d_M_lookAt_118 rfl ?_
          refine gk_weak [] (L' := []) rfl ?_
          exact p_M_lookAt_b126 d h7
    · exact gk_vret (pc := 56) rfl d_M_lookAt_56 rfl
theorem p_M_lookAt (d : Nat) (a0 : Option Nat) (a1 : Int32) (a2 : Int32) (h : gk_H) : ∀ r h1, f_M_lookAt a0 a1 a2 h = some (r, h1) → gk_M (d + 4) y_M_lookAt b_M_lookAt 3 none [va_rf a0, .int a1, .int a2] h (.inl (gv_V r)) h1 :=
  fun r h1 e => gk_M_of2 (by decide +kernel) (by simp [lv_args, gk_cat_rf, gk_catI, gk_catJ, gk_catD, gv_V, gv_I, gv_J, gv_D, gv_R]) (by simp [lg_sl, gk_cat_rf, gk_catI, gk_catJ, gk_catD, gv_V, gv_I, gv_J, gv_D, gv_R]) (w_M_lookAt d a0 a1 a2 h r h1 e)
theorem d_M_letters_0 : decode b_M_letters 0 = .ok (.aload_n 0, 1) := by decide +kernel
theorem d_M_letters_1 : decode b_M_letters 1 = .ok (.getfield 62, 3) := by decide +kernel
theorem d_M_letters_4 : decode b_M_letters 4 = .ok (.ifCond .le 4, 3) := by decide +kernel
theorem d_M_letters_7 : decode b_M_letters 7 = .ok (.return_, 1) := by decide +kernel
theorem d_M_letters_8 : decode b_M_letters 8 = .ok (.aload_n 0, 1) := by decide +kernel
theorem d_M_letters_9 : decode b_M_letters 9 = .ok (.bipush 16, 2) := by decide +kernel
theorem d_M_letters_11 : decode b_M_letters 11 = .ok (.iconst 2, 1) := by decide +kernel
theorem d_M_letters_12 : decode b_M_letters 12 = .ok (.dconst 0, 1) := by decide +kernel
theorem d_M_letters_13 : decode b_M_letters 13 = .ok (.invokevirtual 76, 3) := by decide +kernel
theorem d_M_letters_16 : decode b_M_letters 16 = .ok (.iconst 0, 1) := by decide +kernel
theorem d_M_letters_17 : decode b_M_letters 17 = .ok (.istore_n 2, 1) := by decide +kernel
theorem d_M_letters_18 : decode b_M_letters 18 = .ok (.iconst 0, 1) := by decide +kernel
theorem d_M_letters_19 : decode b_M_letters 19 = .ok (.istore_n 3, 1) := by decide +kernel
theorem d_M_letters_20 : decode b_M_letters 20 = .ok (.iload_n 3, 1) := by decide +kernel
theorem d_M_letters_21 : decode b_M_letters 21 = .ok (.aload_n 0, 1) := by decide +kernel
theorem d_M_letters_22 : decode b_M_letters 22 = .ok (.getfield 40, 3) := by decide +kernel
theorem d_M_letters_25 : decode b_M_letters 25 = .ok (.iconst 0, 1) := by decide +kernel
theorem d_M_letters_26 : decode b_M_letters 26 = .ok (.iaload, 1) := by decide +kernel
theorem d_M_letters_27 : decode b_M_letters 27 = .ok (.if_icmp .ge 212, 3) := by decide +kernel
theorem d_M_letters_30 : decode b_M_letters 30 = .ok (.aload_n 0, 1) := by decide +kernel
theorem d_M_letters_31 : decode b_M_letters 31 = .ok (.getfield 43, 3) := by decide +kernel
theorem d_M_letters_34 : decode b_M_letters 34 = .ok (.iload_n 3, 1) := by decide +kernel
theorem d_M_letters_35 : decode b_M_letters 35 = .ok (.baload, 1) := by decide +kernel
theorem d_M_letters_36 : decode b_M_letters 36 = .ok (.istore 4, 2) := by decide +kernel
theorem d_M_letters_38 : decode b_M_letters 38 = .ok (.iload 4, 2) := by decide +kernel
theorem d_M_letters_40 : decode b_M_letters 40 = .ok (.invokestatic 158, 3) := by decide +kernel
theorem d_M_letters_43 : decode b_M_letters 43 = .ok (.istore 5, 2) := by decide +kernel
theorem d_M_letters_45 : decode b_M_letters 45 = .ok (.iload 5, 2) := by decide +kernel
theorem d_M_letters_47 : decode b_M_letters 47 = .ok (.bipush 65, 2) := by decide +kernel
theorem d_M_letters_49 : decode b_M_letters 49 = .ok (.if_icmp .lt 14, 3) := by decide +kernel
theorem d_M_letters_52 : decode b_M_letters 52 = .ok (.iload 5, 2) := by decide +kernel
theorem d_M_letters_54 : decode b_M_letters 54 = .ok (.bipush 90, 2) := by decide +kernel
theorem d_M_letters_56 : decode b_M_letters 56 = .ok (.if_icmp .gt 7, 3) := by decide +kernel
theorem d_M_letters_59 : decode b_M_letters 59 = .ok (.iconst 1, 1) := by decide +kernel
theorem d_M_letters_60 : decode b_M_letters 60 = .ok (.goto 4, 3) := by decide +kernel
theorem d_M_letters_63 : decode b_M_letters 63 = .ok (.iconst 0, 1) := by decide +kernel
theorem d_M_letters_64 : decode b_M_letters 64 = .ok (.istore 6, 2) := by decide +kernel
theorem d_M_letters_66 : decode b_M_letters 66 = .ok (.iload 6, 2) := by decide +kernel
theorem d_M_letters_68 : decode b_M_letters 68 = .ok (.ifCond .eq 11, 3) := by decide +kernel
theorem d_M_letters_71 : decode b_M_letters 71 = .ok (.iload 5, 2) := by decide +kernel
theorem d_M_letters_73 : decode b_M_letters 73 = .ok (.bipush 32, 2) := by decide +kernel
theorem d_M_letters_75 : decode b_M_letters 75 = .ok (.iadd, 1) := by decide +kernel
theorem d_M_letters_76 : decode b_M_letters 76 = .ok (.goto 5, 3) := by decide +kernel
theorem d_M_letters_79 : decode b_M_letters 79 = .ok (.iload 4, 2) := by decide +kernel
theorem d_M_letters_81 : decode b_M_letters 81 = .ok (.istore 7, 2) := by decide +kernel
theorem d_M_letters_83 : decode b_M_letters 83 = .ok (.iload_n 1, 1) := by decide +kernel
theorem d_M_letters_84 : decode b_M_letters 84 = .ok (.bipush 63, 2) := by decide +kernel
theorem d_M_letters_86 : decode b_M_letters 86 = .ok (.if_icmp .ne 107, 3) := by decide +kernel
theorem d_M_letters_89 : decode b_M_letters 89 = .ok (.iconst 1, 1) := by decide +kernel
theorem d_M_letters_90 : decode b_M_letters 90 = .ok (.istore 8, 2) := by decide +kernel
theorem d_M_letters_92 : decode b_M_letters 92 = .ok (.iload_n 3, 1) := by decide +kernel
theorem d_M_letters_93 : decode b_M_letters 93 = .ok (.istore 9, 2) := by decide +kernel
theorem d_M_letters_95 : decode b_M_letters 95 = .ok (.iload 9, 2) := by decide +kernel
theorem d_M_letters_97 : decode b_M_letters 97 = .ok (.aload_n 0, 1) := by decide +kernel
theorem d_M_letters_98 : decode b_M_letters 98 = .ok (.getfield 40, 3) := by decide +kernel
theorem d_M_letters_101 : decode b_M_letters 101 = .ok (.iconst 0, 1) := by decide +kernel
theorem d_M_letters_102 : decode b_M_letters 102 = .ok (.iaload, 1) := by decide +kernel
theorem d_M_letters_103 : decode b_M_letters 103 = .ok (.if_icmp .ge 33, 3) := by decide +kernel
theorem d_M_letters_106 : decode b_M_letters 106 = .ok (.iload 8, 2) := by decide +kernel
theorem d_M_letters_108 : decode b_M_letters 108 = .ok (.ifCond .eq 19, 3) := by decide +kernel
theorem d_M_letters_111 : decode b_M_letters 111 = .ok (.aload_n 0, 1) := by decide +kernel
theorem d_M_letters_112 : decode b_M_letters 112 = .ok (.getfield 43, 3) := by decide +kernel
theorem d_M_letters_115 : decode b_M_letters 115 = .ok (.iload 9, 2) := by decide +kernel
theorem d_M_letters_117 : decode b_M_letters 117 = .ok (.baload, 1) := by decide +kernel
theorem d_M_letters_118 : decode b_M_letters 118 = .ok (.bipush 32, 2) := by decide +kernel
theorem d_M_letters_120 : decode b_M_letters 120 = .ok (.if_icmp .ne 7, 3) := by decide +kernel
theorem d_M_letters_123 : decode b_M_letters 123 = .ok (.iconst 1, 1) := by decide +kernel
theorem d_M_letters_124 : decode b_M_letters 124 = .ok (.goto 4, 3) := by decide +kernel
theorem d_M_letters_127 : decode b_M_letters 127 = .ok (.iconst 0, 1) := by decide +kernel
theorem d_M_letters_128 : decode b_M_letters 128 = .ok (.istore 8, 2) := by decide +kernel
theorem d_M_letters_130 : decode b_M_letters 130 = .ok (.iinc 9 1, 3) := by decide +kernel
theorem d_M_letters_133 : decode b_M_letters 133 = .ok (.goto (-38), 3) := by decide +kernel
theorem d_M_letters_136 : decode b_M_letters 136 = .ok (.iload 4, 2) := by decide +kernel
theorem d_M_letters_138 : decode b_M_letters 138 = .ok (.bipush 32, 2) := by decide +kernel
theorem d_M_letters_140 : decode b_M_letters 140 = .ok (.if_icmp .ne 36, 3) := by decide +kernel
theorem d_M_letters_143 : decode b_M_letters 143 = .ok (.iload 8, 2) := by decide +kernel
theorem d_M_letters_145 : decode b_M_letters 145 = .ok (.ifCond .ne 27, 3) := by decide +kernel
theorem d_M_letters_148 : decode b_M_letters 148 = .ok (.aload_n 0, 1) := by decide +kernel
theorem d_M_letters_149 : decode b_M_letters 149 = .ok (.getfield 30, 3) := by decide +kernel
theorem d_M_letters_152 : decode b_M_letters 152 = .ok (.sipush 256, 3) := by decide +kernel
theorem d_M_letters_155 : decode b_M_letters 155 = .ok (.iaload, 1) := by decide +kernel
theorem d_M_letters_156 : decode b_M_letters 156 = .ok (.ifCond .eq 16, 3) := by decide +kernel
theorem d_M_letters_159 : decode b_M_letters 159 = .ok (.aload_n 0, 1) := by decide +kernel
theorem d_M_letters_160 : decode b_M_letters 160 = .ok (.getfield 43, 3) := by decide +kernel
theorem d_M_letters_163 : decode b_M_letters 163 = .ok (.iload_n 3, 1) := by decide +kernel
theorem d_M_letters_164 : decode b_M_letters 164 = .ok (.iconst 1, 1) := by decide +kernel
theorem d_M_letters_165 : decode b_M_letters 165 = .ok (.isub, 1) := by decide +kernel
theorem d_M_letters_166 : decode b_M_letters 166 = .ok (.baload, 1) := by decide +kernel
theorem d_M_letters_167 : decode b_M_letters 167 = .ok (.bipush 32, 2) := by decide +kernel
theorem d_M_letters_169 : decode b_M_letters 169 = .ok (.if_icmp .ne 7, 3) := by decide +kernel
theorem d_M_letters_172 : decode b_M_letters 172 = .ok (.iconst 1, 1) := by decide +kernel
theorem d_M_letters_173 : decode b_M_letters 173 = .ok (.goto 4, 3) := by decide +kernel
theorem d_M_letters_176 : decode b_M_letters 176 = .ok (.iconst 0, 1) := by decide +kernel
theorem d_M_letters_177 : decode b_M_letters 177 = .ok (.istore 9, 2) := by decide +kernel
theorem d_M_letters_179 : decode b_M_letters 179 = .ok (.iload 9, 2) := by decide +kernel
theorem d_M_letters_181 : decode b_M_letters 181 = .ok (.ifCond .ne 9, 3) := by decide +kernel
theorem d_M_letters_184 : decode b_M_letters 184 = .ok (.aload_n 0, 1) := by decide +kernel
theorem d_M_letters_185 : decode b_M_letters 185 = .ok (.iload 4, 2) := by decide +kernel
theorem d_M_letters_187 : decode b_M_letters 187 = .ok (.invokevirtual 224, 3) := by decide +kernel
theorem d_M_letters_190 : decode b_M_letters 190 = .ok (.goto 40, 3) := by decide +kernel
theorem d_M_letters_193 : decode b_M_letters 193 = .ok (.aload_n 0, 1) := by decide +kernel
theorem d_M_letters_194 : decode b_M_letters 194 = .ok (.iload_n 1, 1) := by decide +kernel
theorem d_M_letters_195 : decode b_M_letters 195 = .ok (.bipush 60, 2) := by decide +kernel
theorem d_M_letters_197 : decode b_M_letters 197 = .ok (.if_icmp .ne 8, 3) := by decide +kernel
theorem d_M_letters_200 : decode b_M_letters 200 = .ok (.iload 5, 2) := by decide +kernel
theorem d_M_letters_202 : decode b_M_letters 202 = .ok (.goto 25, 3) := by decide +kernel
theorem d_M_letters_205 : decode b_M_letters 205 = .ok (.iload_n 1, 1) := by decide +kernel
theorem d_M_letters_206 : decode b_M_letters 206 = .ok (.bipush 61, 2) := by decide +kernel
theorem d_M_letters_208 : decode b_M_letters 208 = .ok (.if_icmp .ne 8, 3) := by decide +kernel
theorem d_M_letters_211 : decode b_M_letters 211 = .ok (.iload 7, 2) := by decide +kernel
theorem d_M_letters_213 : decode b_M_letters 213 = .ok (.goto 14, 3) := by decide +kernel
theorem d_M_letters_216 : decode b_M_letters 216 = .ok (.iload_n 2, 1) := by decide +kernel
theorem d_M_letters_217 : decode b_M_letters 217 = .ok (.ifCond .eq 8, 3) := by decide +kernel
theorem d_M_letters_220 : decode b_M_letters 220 = .ok (.iload 7, 2) := by decide +kernel
theorem d_M_letters_222 : decode b_M_letters 222 = .ok (.goto 5, 3) := by decide +kernel
theorem d_M_letters_225 : decode b_M_letters 225 = .ok (.iload 5, 2) := by decide +kernel
theorem d_M_letters_227 : decode b_M_letters 227 = .ok (.invokevirtual 224, 3) := by decide +kernel
theorem d_M_letters_230 : decode b_M_letters 230 = .ok (.iload 6, 2) := by decide +kernel
theorem d_M_letters_232 : decode b_M_letters 232 = .ok (.istore_n 2, 1) := by decide +kernel
theorem d_M_letters_233 : decode b_M_letters 233 = .ok (.iinc 3 1, 3) := by decide +kernel
theorem d_M_letters_236 : decode b_M_letters 236 = .ok (.goto (-216), 3) := by decide +kernel
theorem d_M_letters_239 : decode b_M_letters 239 = .ok (.return_, 1) := by decide +kernel
theorem p_M_letters_b230 (d : Nat) (b20 : Option Nat → Int32 → Int32 → Int32 → gk_H → Option (Unit × gk_H)) (q20 : ∀ (v0 : Option Nat) (v1 : Int32) (v2 : Int32) (v3 : Int32) (h : gk_H), gk_P gw_V (d + 2) y_M_letters b_M_letters 10 none [] (b20 v0 v1 v2 v3 h) 20 [(0, va_rf v0), (1, .int v1), (2, .int v2), (3, .int v3)] [] h) (v0 : Option Nat) (v1 : Int32) (v3 : Int32) (v6 : Int32) (h : gk_H) : gk_P gw_V (d + 2) y_M_letters b_M_letters 10 none [] (f_M_letters_b230 b20 v0 v1 v3 v6 h) 230 [(0, va_rf v0), (1, .int v1), (3, .int v3), (6, .int v6)] [] h := by
  unfold f_M_letters_b230
  refine gk_iload (pc := 230) 3 d_M_letters_230 rfl ?_
  refine gk_istore_n (pc := 232) (L' := [(2, .int v6), (0, va_rf v0), (1, .int v1), (3, .int v3), (6, .int v6)]) d_M_letters_232 (Nat.le_of_ble_eq_true rfl) rfl ?_
  refine gk_iincN (pc := 233) 3 (1 : Int32) (L' := fun x1 => [(3, .int x1), (2, .int v6), (0, va_rf v0), (1, .int v1), (6, .int v6)]) d_M_letters_233 rfl rfl (Nat.le_of_ble_eq_true rfl) (fun _ => rfl) fun x1 => ?_
  refine gk_goto (pc := 236) 20 d_M_letters_236 rfl ?_
  refine gk_weak [2, 3, 1, 0] (L' := [(0, va_rf v0), (1, .int v1), (2, .int v6), (3, .int x1)]) rfl ?_
  exact q20 v0 v1 v6 x1 h
theorem p_M_letters_b227 (d : Nat) (b20 : Option Nat → Int32 → Int32 → Int32 → gk_H → Option (Unit × gk_H)) (q20 : ∀ (v0 : Option Nat) (v1 : Int32) (v2 : Int32) (v3 : Int32) (h : gk_H), gk_P gw_V (d + 2) y_M_letters b_M_letters 10 none [] (b20 v0 v1 v2 v3 h) 20 [(0, va_rf v0), (1, .int v1), (2, .int v2), (3, .int v3)] [] h) (v0 : Option Nat) (v1 : Int32) (v3 : Int32) (v6 : Int32) (s0 : Option Nat) (s1 : Int32) (h : gk_H) : gk_P gw_V (d + 2) y_M_letters b_M_letters 10 none [] (f_M_letters_b227 b20 v0 v1 v3 v6 s0 s1 h) 227 [(0, va_rf v0), (1, .int v1), (3, .int v3), (6, .int v6)] [.int s1, va_rf s0] h := by
  unfold f_M_letters_b227
  refine gk_callV (pc := 227) (d := (d + 1)) (w' := gv_V) (as := [.int s1]) (n := 1) 7 d_M_letters_227 rfl rfl rfl rfl (Nat.le_of_ble_eq_true rfl) tw_1863 tw_1865 tw_30 tw_99 cw_M_add hy_M_add (Nat.le_of_ble_eq_true rfl) (p_M_add d s0 s1 h) fun _ h1 => ?_
  exact p_M_letters_b230 d b20 q20 v0 v1 v3 v6 h1
theorem p_M_letters_b190 (d : Nat) (b20 : Option Nat → Int32 → Int32 → Int32 → gk_H → Option (Unit × gk_H)) (q20 : ∀ (v0 : Option Nat) (v1 : Int32) (v2 : Int32) (v3 : Int32) (h : gk_H), gk_P gw_V (d + 2) y_M_letters b_M_letters 10 none [] (b20 v0 v1 v2 v3 h) 20 [(0, va_rf v0), (1, .int v1), (2, .int v2), (3, .int v3)] [] h) (v0 : Option Nat) (v1 : Int32) (v3 : Int32) (v6 : Int32) (h : gk_H) : gk_P gw_V (d + 2) y_M_letters b_M_letters 10 none [] (f_M_letters_b190 b20 v0 v1 v3 v6 h) 190 [(0, va_rf v0), (1, .int v1), (3, .int v3), (6, .int v6)] [] h := by
  unfold f_M_letters_b190
  refine gk_goto (pc := 190) 230 d_M_letters_190 rfl ?_
  exact p_M_letters_b230 d b20 q20 v0 v1 v3 v6 h
theorem p_M_letters_b177 (d : Nat) (b20 : Option Nat → Int32 → Int32 → Int32 → gk_H → Option (Unit × gk_H)) (q20 : ∀ (v0 : Option Nat) (v1 : Int32) (v2 : Int32) (v3 : Int32) (h : gk_H), gk_P gw_V (d + 2) y_M_letters b_M_letters 10 none [] (b20 v0 v1 v2 v3 h) 20 [(0, va_rf v0), (1, .int v1), (2, .int v2), (3, .int v3)] [] h) (v0 : Option Nat) (v1 : Int32) (v3 : Int32) (v4 : Int32) (v6 : Int32) (s0 : Int32) (h : gk_H) : gk_P gw_V (d + 2) y_M_letters b_M_letters 10 none [] (f_M_letters_b177 b20 v0 v1 v3 v4 v6 s0 h) 177 [(0, va_rf v0), (1, .int v1), (3, .int v3), (4, .int v4), (6, .int v6)] [.int s0] h := by
  unfold f_M_letters_b177
  refine gk_istore (pc := 177) (L' := [(9, .int s0), (0, va_rf v0), (1, .int v1), (3, .int v3), (4, .int v4), (6, .int v6)]) d_M_letters_177 (Nat.le_of_ble_eq_true rfl) rfl ?_
  refine gk_iload (pc := 179) 0 d_M_letters_179 rfl ?_
  refine gk_if_ne (pc := 181) 190 d_M_letters_181 rfl (fun _ => ?_) (fun _ => ?_)
  · refine gk_aload_n (pc := 184) 1 d_M_letters_184 rfl ?_
    refine gk_iload (pc := 185) 4 d_M_letters_185 rfl ?_
    refine gk_callV (pc := 187) (d := (d + 1)) (w' := gv_V) (as := [.int v4]) (n := 1) 7 d_M_letters_187 rfl rfl rfl rfl (Nat.le_of_ble_eq_true rfl) tw_1863 tw_1865 tw_30 tw_99 cw_M_add hy_M_add (Nat.le_of_ble_eq_true rfl) (p_M_add d v0 v4 h) fun _ h1 => ?_
    refine gk_weak [1, 2, 3, 5] (L' := [(0, va_rf v0), (1, .int v1), (3, .int v3), (6, .int v6)]) rfl ?_
    exact p_M_letters_b190 d b20 q20 v0 v1 v3 v6 h1
  · refine gk_weak [1, 2, 3, 5] (L' := [(0, va_rf v0), (1, .int v1), (3, .int v3), (6, .int v6)]) rfl ?_
    exact p_M_letters_b190 d b20 q20 v0 v1 v3 v6 h
theorem p_M_letters_b176 (d : Nat) (b20 : Option Nat → Int32 → Int32 → Int32 → gk_H → Option (Unit × gk_H)) (q20 : ∀ (v0 : Option Nat) (v1 : Int32) (v2 : Int32) (v3 : Int32) (h : gk_H), gk_P gw_V (d + 2) y_M_letters b_M_letters 10 none [] (b20 v0 v1 v2 v3 h) 20 [(0, va_rf v0), (1, .int v1), (2, .int v2), (3, .int v3)] [] h) (v0 : Option Nat) (v1 : Int32) (v3 : Int32) (v4 : Int32) (v6 : Int32) (h : gk_H) : gk_P gw_V (d + 2) y_M_letters b_M_letters 10 none [] (f_M_letters_b176 b20 v0 v1 v3 v4 v6 h) 176 [(0, va_rf v0), (1, .int v1), (3, .int v3), (4, .int v4), (6, .int v6)] [] h := by
  unfold f_M_letters_b176
  refine gk_iconst (pc := 176) (0 : Int32) d_M_letters_176 rfl ?_
  exact p_M_letters_b177 d b20 q20 v0 v1 v3 v4 v6 (0 : Int32) h
theorem p_M_letters_b172 (d : Nat) (b20 : Option Nat → Int32 → Int32 → Int32 → gk_H → Option (Unit × gk_H)) (q20 : ∀ (v0 : Option Nat) (v1 : Int32) (v2 : Int32) (v3 : Int32) (h : gk_H), gk_P gw_V (d + 2) y_M_letters b_M_letters 10 none [] (b20 v0 v1 v2 v3 h) 20 [(0, va_rf v0), (1, .int v1), (2, .int v2), (3, .int v3)] [] h) (v0 : Option Nat) (v1 : Int32) (v3 : Int32) (v4 : Int32) (v6 : Int32) (h : gk_H) : gk_P gw_V (d + 2) y_M_letters b_M_letters 10 none [] (f_M_letters_b172 b20 v0 v1 v3 v4 v6 h) 172 [(0, va_rf v0), (1, .int v1), (3, .int v3), (4, .int v4), (6, .int v6)] [] h := by
  unfold f_M_letters_b172
  refine gk_iconst (pc := 172) (1 : Int32) d_M_letters_172 rfl ?_
  refine gk_goto (pc := 173) 177 d_M_letters_173 rfl ?_
  exact p_M_letters_b177 d b20 q20 v0 v1 v3 v4 v6 (1 : Int32) h
theorem p_M_letters_b128 (d : Nat) (b20 : Option Nat → Int32 → Int32 → Int32 → gk_H → Option (Unit × gk_H)) (q20 : ∀ (v0 : Option Nat) (v1 : Int32) (v2 : Int32) (v3 : Int32) (h : gk_H), gk_P gw_V (d + 2) y_M_letters b_M_letters 10 none [] (b20 v0 v1 v2 v3 h) 20 [(0, va_rf v0), (1, .int v1), (2, .int v2), (3, .int v3)] [] h) (b95 : Option Nat → Int32 → Int32 → Int32 → Int32 → Int32 → Int32 → gk_H → Option (Unit × gk_H)) (q95 : ∀ (v0 : Option Nat) (v1 : Int32) (v3 : Int32) (v4 : Int32) (v6 : Int32) (v8 : Int32) (v9 : Int32) (h : gk_H), gk_P gw_V (d + 2) y_M_letters b_M_letters 10 none [] (b95 v0 v1 v3 v4 v6 v8 v9 h) 95 [(0, va_rf v0), (1, .int v1), (3, .int v3), (4, .int v4), (6, .int v6), (8, .int v8), (9, .int v9)] [] h) (v0 : Option Nat) (v1 : Int32) (v3 : Int32) (v4 : Int32) (v6 : Int32) (v9 : Int32) (s0 : Int32) (h : gk_H) : gk_P gw_V (d + 2) y_M_letters b_M_letters 10 none [] (f_M_letters_b128 b20 b95 v0 v1 v3 v4 v6 v9 s0 h) 128 [(0, va_rf v0), (1, .int v1), (3, .int v3), (4, .int v4), (6, .int v6), (9, .int v9)] [.int s0] h := by
  unfold f_M_letters_b128
  refine gk_istore (pc := 128) (L' := [(8, .int s0), (0, va_rf v0), (1, .int v1), (3, .int v3), (4, .int v4), (6, .int v6), (9, .int v9)]) d_M_letters_128 (Nat.le_of_ble_eq_true rfl) rfl ?_
  refine gk_iincN (pc := 130) 6 (1 : Int32) (L' := fun x1 => [(9, .int x1), (8, .int s0), (0, va_rf v0), (1, .int v1), (3, .int v3), (4, .int v4), (6, .int v6)]) d_M_letters_130 rfl rfl (Nat.le_of_ble_eq_true rfl) (fun _ => rfl) fun x1 => ?_
  refine gk_goto (pc := 133) 95 d_M_letters_133 rfl ?_
  refine gk_weak [2, 3, 4, 5, 6, 1, 0] (L' := [(0, va_rf v0), (1, .int v1), (3, .int v3), (4, .int v4), (6, .int v6), (8, .int s0), (9, .int x1)]) rfl ?_
  exact q95 v0 v1 v3 v4 v6 s0 x1 h
theorem p_M_letters_b127 (d : Nat) (b20 : Option Nat → Int32 → Int32 → Int32 → gk_H → Option (Unit × gk_H)) (q20 : ∀ (v0 : Option Nat) (v1 : Int32) (v2 : Int32) (v3 : Int32) (h : gk_H), gk_P gw_V (d + 2) y_M_letters b_M_letters 10 none [] (b20 v0 v1 v2 v3 h) 20 [(0, va_rf v0), (1, .int v1), (2, .int v2), (3, .int v3)] [] h) (b95 : Option Nat → Int32 → Int32 → Int32 → Int32 → Int32 → Int32 → gk_H → Option (Unit × gk_H)) (q95 : ∀ (v0 : Option Nat) (v1 : Int32) (v3 : Int32) (v4 : Int32) (v6 : Int32) (v8 : Int32) (v9 : Int32) (h : gk_H), gk_P gw_V (d + 2) y_M_letters b_M_letters 10 none [] (b95 v0 v1 v3 v4 v6 v8 v9 h) 95 [(0, va_rf v0), (1, .int v1), (3, .int v3), (4, .int v4), (6, .int v6), (8, .int v8), (9, .int v9)] [] h) (v0 : Option Nat) (v1 : Int32) (v3 : Int32) (v4 : Int32) (v6 : Int32) (v9 : Int32) (h : gk_H) : gk_P gw_V (d + 2) y_M_letters b_M_letters 10 none [] (f_M_letters_b127 b20 b95 v0 v1 v3 v4 v6 v9 h) 127 [(0, va_rf v0), (1, .int v1), (3, .int v3), (4, .int v4), (6, .int v6), (9, .int v9)] [] h := by
  unfold f_M_letters_b127
  refine gk_iconst (pc := 127) (0 : Int32) d_M_letters_127 rfl ?_
  exact p_M_letters_b128 d b20 q20 b95 q95 v0 v1 v3 v4 v6 v9 (0 : Int32) h
theorem p_M_letters_b95 (d : Nat) (b20 : Option Nat → Int32 → Int32 → Int32 → gk_H → Option (Unit × gk_H)) (q20 : ∀ (v0 : Option Nat) (v1 : Int32) (v2 : Int32) (v3 : Int32) (h : gk_H), gk_P gw_V (d + 2) y_M_letters b_M_letters 10 none [] (b20 v0 v1 v2 v3 h) 20 [(0, va_rf v0), (1, .int v1), (2, .int v2), (3, .int v3)] [] h) : ∀ (fu : Nat) (v0 : Option Nat) (v1 : Int32) (v3 : Int32) (v4 : Int32) (v6 : Int32) (v8 : Int32) (v9 : Int32) (h : gk_H), gk_P gw_V (d + 2) y_M_letters b_M_letters 10 none [] (f_M_letters_b95 b20 fu v0 v1 v3 v4 v6 v8 v9 h) 95 [(0, va_rf v0), (1, .int v1), (3, .int v3), (4, .int v4), (6, .int v6), (8, .int v8), (9, .int v9)] [] h := by
  intro fu
  induction fu with
  | zero => intros; exact gk_none
  | succ fu q95 =>
    intro v0 v1 v3 v4 v6 v8 v9 h
    rw [f_M_letters_b95]
    refine gk_iload (pc := 95) 6 d_M_letters_95 rfl ?_
    refine gk_aload_n (pc := 97) 0 d_M_letters_97 rfl ?_
    refine gk_getR (pc := 98) 7 14 d_M_letters_98 rfl (Nat.le_of_ble_eq_true rfl) tw_1659 fun x1 => ?_
    refine gk_iconst (pc := 101) (0 : Int32) d_M_letters_101 rfl ?_
    refine gk_iald (pc := 102) d_M_letters_102 fun x2 => ?_
    refine gk_icmp_ge (pc := 103) 136 d_M_letters_103 rfl (fun _ => ?_) (fun _ => ?_)
    · refine gk_iload (pc := 136) 3 d_M_letters_136 rfl ?_
      refine gk_bipush (pc := 138) (32 : Int32) d_M_letters_138 rfl ?_
      refine gk_icmp_ne (pc := 140) 176 d_M_letters_140 rfl (fun _ => ?_) (fun _ => ?_)
      · refine gk_iload (pc := 143) 5 d_M_letters_143 rfl ?_
        refine gk_if_ne (pc := 145) 172 d_M_letters_145 rfl (fun _ => ?_) (fun _ => ?_)
        · refine gk_aload_n (pc := 148) 0 d_M_letters_148 rfl ?_
          refine gk_getR (pc := 149) 7 9 d_M_letters_149 rfl (Nat.le_of_ble_eq_true rfl) tw_1654 fun x3 => ?_
          refine gk_sipush (pc := 152) (256 : Int32) d_M_letters_152 rfl ?_
          refine gk_iald (pc := 155) d_M_letters_155 fun x4 => ?_
          refine gk_if_eq (pc := 156) 172 d_M_letters_156 rfl (fun _ => ?_) (fun _ => ?_)
          · refine gk_weak [0, 1, 2, 3, 4] (L' := [(0, va_rf v0), (1, .int v1), (3, .int v3), (4, .int v4), (6, .int v6)]) rfl ?_
            exact p_M_letters_b172 d b20 q20 v0 v1 v3 v4 v6 h
          · refine gk_aload_n (pc := 159) 0 d_M_letters_159 rfl ?_
            refine gk_getR (pc := 160) 7 15 d_M_letters_160 rfl (Nat.le_of_ble_eq_true rfl) tw_1660 fun x5 => ?_
            refine gk_iload_n (pc := 163) 2 d_M_letters_163 rfl ?_
            refine gk_iconst (pc := 164) (1 : Int32) d_M_letters_164 rfl ?_
            refine gk_isub (pc := 165) d_M_letters_165 ?_
            refine gk_bald (pc := 166) d_M_letters_166 fun x6 => ?_
            refine gk_bipush (pc := 167) (32 : Int32) d_M_letters_167 rfl ?_
            refine gk_icmp_ne (pc := 169) 176 d_M_letters_169 rfl (fun _ => ?_) (fun _ => ?_)
            · refine gk_weak [0, 1, 2, 3, 4] (L' := [(0, va_rf v0), (1, .int v1), (3, .int v3), (4, .int v4), (6, .int v6)]) rfl ?_
              exact p_M_letters_b172 d b20 q20 v0 v1 v3 v4 v6 h
            · refine gk_weak [0, 1, 2, 3, 4] (L' := [(0, va_rf v0), (1, .int v1), (3, .int v3), (4, .int v4), (6, .int v6)]) rfl ?_
              exact p_M_letters_b176 d b20 q20 v0 v1 v3 v4 v6 h
        · refine gk_weak [0, 1, 2, 3, 4] (L' := [(0, va_rf v0), (1, .int v1), (3, .int v3), (4, .int v4), (6, .int v6)]) rfl ?_
          exact p_M_letters_b172 d b20 q20 v0 v1 v3 v4 v6 h
      · refine gk_weak [0, 1, 2, 3, 4] (L' := [(0, va_rf v0), (1, .int v1), (3, .int v3), (4, .int v4), (6, .int v6)]) rfl ?_
        exact p_M_letters_b176 d b20 q20 v0 v1 v3 v4 v6 h
    · refine gk_iload (pc := 106) 5 d_M_letters_106 rfl ?_
      refine gk_if_eq (pc := 108) 127 d_M_letters_108 rfl (fun _ => ?_) (fun _ => ?_)
      · refine gk_weak [0, 1, 2, 3, 4, 6] (L' := [(0, va_rf v0), (1, .int v1), (3, .int v3), (4, .int v4), (6, .int v6), (9, .int v9)]) rfl ?_
        exact p_M_letters_b127 d b20 q20 (f_M_letters_b95 b20 fu) q95 v0 v1 v3 v4 v6 v9 h
      · refine gk_aload_n (pc := 111) 0 d_M_letters_111 rfl ?_
        refine gk_getR (pc := 112) 7 15 d_M_letters_112 rfl (Nat.le_of_ble_eq_true rfl) tw_1660 fun x7 => ?_
        refine gk_iload (pc := 115) 6 d_M_letters_115 rfl ?_
        refine gk_bald (pc := 117) d_M_letters_117 fun x8 => ?_
        refine gk_bipush (pc := 118) (32 : Int32) d_M_letters_118 rfl ?_
        refine gk_icmp_ne (pc := 120) 127 d_M_letters_120 rfl (fun _ => ?_) (fun _ => ?_)
        · refine gk_iconst (pc := 123) (1 : Int32) d_M_letters_123 rfl ?_
          refine gk_goto (pc := 124) 128 d_M_letters_124 rfl ?_
          refine gk_weak [0, 1, 2, 3, 4, 6] (L' := [(0, va_rf v0), (1, .int v1), (3, .int v3), (4, .int v4), (6, .int v6), (9, .int v9)]) rfl ?_
          exact p_M_letters_b128 d b20 q20 (f_M_letters_b95 b20 fu) q95 v0 v1 v3 v4 v6 v9 (1 : Int32) h
        · refine gk_weak [0, 1, 2, 3, 4, 6] (L' := [(0, va_rf v0), (1, .int v1), (3, .int v3), (4, .int v4), (6, .int v6), (9, .int v9)]) rfl ?_
          exact p_M_letters_b127 d b20 q20 (f_M_letters_b95 b20 fu) q95 v0 v1 v3 v4 v6 v9 h
theorem p_M_letters_b81 (d : Nat) (b20 : Option Nat → Int32 → Int32 → Int32 → gk_H → Option (Unit × gk_H)) (q20 : ∀ (v0 : Option Nat) (v1 : Int32) (v2 : Int32) (v3 : Int32) (h : gk_H), gk_P gw_V (d + 2) y_M_letters b_M_letters 10 none [] (b20 v0 v1 v2 v3 h) 20 [(0, va_rf v0), (1, .int v1), (2, .int v2), (3, .int v3)] [] h) (v0 : Option Nat) (v1 : Int32) (v2 : Int32) (v3 : Int32) (v4 : Int32) (v5 : Int32) (v6 : Int32) (s0 : Int32) (h : gk_H) : gk_P gw_V (d + 2) y_M_letters b_M_letters 10 none [] (f_M_letters_b81 b20 v0 v1 v2 v3 v4 v5 v6 s0 h) 81 [(0, va_rf v0), (1, .int v1), (2, .int v2), (3, .int v3), (4, .int v4), (5, .int v5), (6, .int v6)] [.int s0] h := by
  unfold f_M_letters_b81
  refine gk_istore (pc := 81) (L' := [(7, .int s0), (0, va_rf v0), (1, .int v1), (2, .int v2), (3, .int v3), (4, .int v4), (5, .int v5), (6, .int v6)]) d_M_letters_81 (Nat.le_of_ble_eq_true rfl) rfl ?_
  refine gk_iload_n (pc := 83) 2 d_M_letters_83 rfl ?_
  refine gk_bipush (pc := 84) (63 : Int32) d_M_letters_84 rfl ?_
  refine gk_icmp_ne (pc := 86) 193 d_M_letters_86 rfl (fun _ => ?_) (fun _ => ?_)
  · refine gk_iconst (pc := 89) (1 : Int32) d_M_letters_89 rfl ?_
    refine gk_istore (pc := 90) (L' := [(8, .int (1 : Int32)), (7, .int s0), (0, va_rf v0), (1, .int v1), (2, .int v2), (3, .int v3), (4, .int v4), (5, .int v5), (6, .int v6)]) d_M_letters_90 (Nat.le_of_ble_eq_true rfl) rfl ?_
    refine gk_iload_n (pc := 92) 5 d_M_letters_92 rfl ?_
    refine gk_istore (pc := 93) (L' := [(9, .int v3), (8, .int (1 : Int32)), (7, .int s0), (0, va_rf v0), (1, .int v1), (2, .int v2), (3, .int v3), (4, .int v4), (5, .int v5), (6, .int v6)]) d_M_letters_93 (Nat.le_of_ble_eq_true rfl) rfl ?_
    refine gk_weak [3, 4, 6, 7, 9, 1, 0] (L' := [(0, va_rf v0), (1, .int v1), (3, .int v3), (4, .int v4), (6, .int v6), (8, .int (1 : Int32)), (9, .int v3)]) rfl ?_
    exact p_M_letters_b95 d b20 q20 gk_F v0 v1 v3 v4 v6 (1 : Int32) v3 h
  · refine gk_aload_n (pc := 193) 1 d_M_letters_193 rfl ?_
    refine gk_iload_n (pc := 194) 2 d_M_letters_194 rfl ?_
    refine gk_bipush (pc := 195) (60 : Int32) d_M_letters_195 rfl ?_
    refine gk_icmp_ne (pc := 197) 205 d_M_letters_197 rfl (fun _ => ?_) (fun _ => ?_)
    · refine gk_iload (pc := 200) 6 d_M_letters_200 rfl ?_
      refine gk_goto (pc := 202) 227 d_M_letters_202 rfl ?_
      refine gk_weak [1, 2, 4, 7] (L' := [(0, va_rf v0), (1, .int v1), (3, .int v3), (6, .int v6)]) rfl ?_
      exact p_M_letters_b227 d b20 q20 v0 v1 v3 v6 v0 v5 h
    · refine gk_iload_n (pc := 205) 2 d_M_letters_205 rfl ?_
      refine gk_bipush (pc := 206) (61 : Int32) d_M_letters_206 rfl ?_
      refine gk_icmp_ne (pc := 208) 216 d_M_letters_208 rfl (fun _ => ?_) (fun _ => ?_)
      · refine gk_iload (pc := 211) 0 d_M_letters_211 rfl ?_
        refine gk_goto (pc := 213) 227 d_M_letters_213 rfl ?_
        refine gk_weak [1, 2, 4, 7] (L' := [(0, va_rf v0), (1, .int v1), (3, .int v3), (6, .int v6)]) rfl ?_
        exact p_M_letters_b227 d b20 q20 v0 v1 v3 v6 v0 s0 h
      · refine gk_iload_n (pc := 216) 3 d_M_letters_216 rfl ?_
        refine gk_if_eq (pc := 217) 225 d_M_letters_217 rfl (fun _ => ?_) (fun _ => ?_)
        · refine gk_iload (pc := 225) 6 d_M_letters_225 rfl ?_
          refine gk_weak [1, 2, 4, 7] (L' := [(0, va_rf v0), (1, .int v1), (3, .int v3), (6, .int v6)]) rfl ?_
          exact p_M_letters_b227 d b20 q20 v0 v1 v3 v6 v0 v5 h
        · refine gk_iload (pc := 220) 0 d_M_letters_220 rfl ?_
          refine gk_goto (pc := 222) 227 d_M_letters_222 rfl ?_
          refine gk_weak [1, 2, 4, 7] (L' := [(0, va_rf v0), (1, .int v1), (3, .int v3), (6, .int v6)]) rfl ?_
          exact p_M_letters_b227 d b20 q20 v0 v1 v3 v6 v0 s0 h
theorem p_M_letters_b64 (d : Nat) (b20 : Option Nat → Int32 → Int32 → Int32 → gk_H → Option (Unit × gk_H)) (q20 : ∀ (v0 : Option Nat) (v1 : Int32) (v2 : Int32) (v3 : Int32) (h : gk_H), gk_P gw_V (d + 2) y_M_letters b_M_letters 10 none [] (b20 v0 v1 v2 v3 h) 20 [(0, va_rf v0), (1, .int v1), (2, .int v2), (3, .int v3)] [] h) (v0 : Option Nat) (v1 : Int32) (v2 : Int32) (v3 : Int32) (v4 : Int32) (v5 : Int32) (s0 : Int32) (h : gk_H) : gk_P gw_V (d + 2) y_M_letters b_M_letters 10 none [] (f_M_letters_b64 b20 v0 v1 v2 v3 v4 v5 s0 h) 64 [(0, va_rf v0), (1, .int v1), (2, .int v2), (3, .int v3), (4, .int v4), (5, .int v5)] [.int s0] h := by
  unfold f_M_letters_b64
  refine gk_istore (pc := 64) (L' := [(6, .int s0), (0, va_rf v0), (1, .int v1), (2, .int v2), (3, .int v3), (4, .int v4), (5, .int v5)]) d_M_letters_64 (Nat.le_of_ble_eq_true rfl) rfl ?_
  refine gk_iload (pc := 66) 0 d_M_letters_66 rfl ?_
  refine gk_if_eq (pc := 68) 79 d_M_letters_68 rfl (fun _ => ?_) (fun _ => ?_)
  · refine gk_iload (pc := 79) 5 d_M_letters_79 rfl ?_
    refine gk_weak [1, 2, 3, 4, 5, 6, 0] (L' := [(0, va_rf v0), (1, .int v1), (2, .int v2), (3, .int v3), (4, .int v4), (5, .int v5), (6, .int s0)]) rfl ?_
    exact p_M_letters_b81 d b20 q20 v0 v1 v2 v3 v4 v5 s0 v4 h
  · refine gk_iload (pc := 71) 6 d_M_letters_71 rfl ?_
    refine gk_bipush (pc := 73) (32 : Int32) d_M_letters_73 rfl ?_
    refine gk_iadd (pc := 75) d_M_letters_75 ?_
    refine gk_goto (pc := 76) 81 d_M_letters_76 rfl ?_
    refine gk_weak [1, 2, 3, 4, 5, 6, 0] (L' := [(0, va_rf v0), (1, .int v1), (2, .int v2), (3, .int v3), (4, .int v4), (5, .int v5), (6, .int s0)]) rfl ?_
    exact p_M_letters_b81 d b20 q20 v0 v1 v2 v3 v4 v5 s0 (v5 + (32 : Int32)) h
theorem p_M_letters_b63 (d : Nat) (b20 : Option Nat → Int32 → Int32 → Int32 → gk_H → Option (Unit × gk_H)) (q20 : ∀ (v0 : Option Nat) (v1 : Int32) (v2 : Int32) (v3 : Int32) (h : gk_H), gk_P gw_V (d + 2) y_M_letters b_M_letters 10 none [] (b20 v0 v1 v2 v3 h) 20 [(0, va_rf v0), (1, .int v1), (2, .int v2), (3, .int v3)] [] h) (v0 : Option Nat) (v1 : Int32) (v2 : Int32) (v3 : Int32) (v4 : Int32) (v5 : Int32) (h : gk_H) : gk_P gw_V (d + 2) y_M_letters b_M_letters 10 none [] (f_M_letters_b63 b20 v0 v1 v2 v3 v4 v5 h) 63 [(0, va_rf v0), (1, .int v1), (2, .int v2), (3, .int v3), (4, .int v4), (5, .int v5)] [] h := by
  unfold f_M_letters_b63
  refine gk_iconst (pc := 63) (0 : Int32) d_M_letters_63 rfl ?_
  exact p_M_letters_b64 d b20 q20 v0 v1 v2 v3 v4 v5 (0 : Int32) h
theorem p_M_letters_b20 (d : Nat)  : ∀ (fu : Nat) (v0 : Option Nat) (v1 : Int32) (v2 : Int32) (v3 : Int32) (h : gk_H), gk_P gw_V (d + 2) y_M_letters b_M_letters 10 none [] (f_M_letters_b20  fu v0 v1 v2 v3 h) 20 [(0, va_rf v0), (1, .int v1), (2, .int v2), (3, .int v3)] [] h := by
  intro fu
  induction fu with
  | zero => intros; exact gk_none
  | succ fu q20 =>
    intro v0 v1 v2 v3 h
    rw [f_M_letters_b20]
    refine gk_iload_n (pc := 20) 3 d_M_letters_20 rfl ?_
    refine gk_aload_n (pc := 21) 0 d_M_letters_21 rfl ?_
    refine gk_getR (pc := 22) 7 14 d_M_letters_22 rfl (Nat.le_of_ble_eq_true rfl) tw_1659 fun x1 => ?_
    refine gk_iconst (pc := 25) (0 : Int32) d_M_letters_25 rfl ?_
    refine gk_iald (pc := 26) d_M_letters_26 fun x2 => ?_
    refine gk_icmp_ge (pc := 27) 239 d_M_letters_27 rfl (fun _ => ?_) (fun _ => ?_)
    · exact gk_vret (pc := 239) rfl d_M_letters_239 rfl
    · refine gk_aload_n (pc := 30) 0 d_M_letters_30 rfl ?_
      refine gk_getR (pc := 31) 7 15 d_M_letters_31 rfl (Nat.le_of_ble_eq_true rfl) tw_1660 fun x3 => ?_
      refine gk_iload_n (pc := 34) 3 d_M_letters_34 rfl ?_
      refine gk_bald (pc := 35) d_M_letters_35 fun x4 => ?_
      refine gk_istore (pc := 36) (L' := [(4, .int x4), (0, va_rf v0), (1, .int v1), (2, .int v2), (3, .int v3)]) d_M_letters_36 (Nat.le_of_ble_eq_true rfl) rfl ?_
      refine gk_iload (pc := 38) 0 d_M_letters_38 rfl ?_
      refine gk_callS (pc := 40) (d := (d + 1)) (w' := gv_I) (as := [.int x4]) (n := 1) d_M_letters_40 rfl rfl (Nat.le_of_ble_eq_true rfl) tw_1817 tw_1818 tw_99 cw_M_great hy_M_great (Nat.le_of_ble_eq_true rfl) (p_M_great (d + 1) x4 h) fun x5 h1 => ?_
      refine gk_istore (pc := 43) (L' := [(5, .int x5), (4, .int x4), (0, va_rf v0), (1, .int v1), (2, .int v2), (3, .int v3)]) d_M_letters_43 (Nat.le_of_ble_eq_true rfl) rfl ?_
      refine gk_iload (pc := 45) 0 d_M_letters_45 rfl ?_
      refine gk_bipush (pc := 47) (65 : Int32) d_M_letters_47 rfl ?_
      refine gk_icmp_lt (pc := 49) 63 d_M_letters_49 rfl (fun _ => ?_) (fun _ => ?_)
      · refine gk_weak [2, 3, 4, 5, 1, 0] (L' := [(0, va_rf v0), (1, .int v1), (2, .int v2), (3, .int v3), (4, .int x4), (5, .int x5)]) rfl ?_
        exact p_M_letters_b63 d (f_M_letters_b20 fu) q20 v0 v1 v2 v3 x4 x5 h1
      · refine gk_iload (pc := 52) 0 d_M_letters_52 rfl ?_
        refine gk_bipush (pc := 54) (90 : Int32) d_M_letters_54 rfl ?_
        refine gk_icmp_gt (pc := 56) 63 d_M_letters_56 rfl (fun _ => ?_) (fun _ => ?_)
        · refine gk_weak [2, 3, 4, 5, 1, 0] (L' := [(0, va_rf v0), (1, .int v1), (2, .int v2), (3, .int v3), (4, .int x4), (5, .int x5)]) rfl ?_
          exact p_M_letters_b63 d (f_M_letters_b20 fu) q20 v0 v1 v2 v3 x4 x5 h1
        · refine gk_iconst (pc := 59) (1 : Int32) d_M_letters_59 rfl ?_
          refine gk_goto (pc := 60) 64 d_M_letters_60 rfl ?_
          refine gk_weak [2, 3, 4, 5, 1, 0] (L' := [(0, va_rf v0), (1, .int v1), (2, .int v2), (3, .int v3), (4, .int x4), (5, .int x5)]) rfl ?_
          exact p_M_letters_b64 d (f_M_letters_b20 fu) q20 v0 v1 v2 v3 x4 x5 (1 : Int32) h1
theorem w_M_letters (d : Nat) (a0 : Option Nat) (a1 : Int32) (h : gk_H) : gk_P gw_V (d + 2) y_M_letters b_M_letters 10 none [] (f_M_letters a0 a1 h) 0 [(0, va_rf a0), (1, .int a1)] [] h := by
  unfold f_M_letters
  refine gk_aload_n (pc := 0) 0 d_M_letters_0 rfl ?_
  refine gk_getI (pc := 1) 7 11 d_M_letters_1 rfl (Nat.le_of_ble_eq_true rfl) tw_1656 fun x1 => ?_
  refine gk_if_le (pc := 4) 8 d_M_letters_4 rfl (fun _ => ?_) (fun _ => ?_)
  · refine gk_aload_n (pc := 8) 0 d_M_letters_8 rfl ?_
    refine gk_bipush (pc := 9) (16 : Int32) d_M_letters_9 rfl ?_
    refine gk_iconst (pc := 11) (2 : Int32) d_M_letters_11 rfl ?_
    refine gk_dconst0 (pc := 12) d_M_letters_12 ?_
    refine gk_callV (pc := 13) (d := (d + 1)) (w' := gv_V) (as := [.int (16 : Int32), .int (2 : Int32), .double (0x0000000000000000)]) (n := 3) 7 d_M_letters_13 rfl rfl rfl rfl (Nat.le_of_ble_eq_true rfl) tw_1733 tw_1735 tw_15 tw_99 cw_M_setSingle hy_M_setSingle (Nat.le_of_ble_eq_true rfl) (p_M_setSingle (d + 1) a0 (16 : Int32) (2 : Int32) (0x0000000000000000) h) fun _ h1 => ?_
    refine gk_iconst (pc := 16) (0 : Int32) d_M_letters_16 rfl ?_
    refine gk_istore_n (pc := 17) (L' := [(2, .int (0 : Int32)), (0, va_rf a0), (1, .int a1)]) d_M_letters_17 (Nat.le_of_ble_eq_true rfl) rfl ?_
    refine gk_iconst (pc := 18) (0 : Int32) d_M_letters_18 rfl ?_
    refine gk_istore_n (pc := 19) (L' := [(3, .int (0 : Int32)), (2, .int (0 : Int32)), (0, va_rf a0), (1, .int a1)]) d_M_letters_19 (Nat.le_of_ble_eq_true rfl) rfl ?_
    refine gk_weak [2, 3, 1, 0] (L' := [(0, va_rf a0), (1, .int a1), (2, .int (0 : Int32)), (3, .int (0 : Int32))]) rfl ?_
    exact p_M_letters_b20 d gk_F a0 a1 (0 : Int32) (0 : Int32) h1
  · exact gk_vret (pc := 7) rfl d_M_letters_7 rfl
theorem p_M_letters (d : Nat) (a0 : Option Nat) (a1 : Int32) (h : gk_H) : ∀ r h1, f_M_letters a0 a1 h = some (r, h1) → gk_M (d + 2) y_M_letters b_M_letters 10 none [va_rf a0, .int a1] h (.inl (gv_V r)) h1 :=
  fun r h1 e => gk_M_of2 (by decide +kernel) (by simp [lv_args, gk_cat_rf, gk_catI, gk_catJ, gk_catD, gv_V, gv_I, gv_J, gv_D, gv_R]) (by simp [lg_sl, gk_cat_rf, gk_catI, gk_catJ, gk_catD, gv_V, gv_I, gv_J, gv_D, gv_R]) (w_M_letters d a0 a1 h r h1 e)
theorem d_M_search_0 : decode b_M_search 0 = .ok (.aload_n 0, 1) := by decide +kernel
theorem d_M_search_1 : decode b_M_search 1 = .ok (.iload_n 2, 1) := by decide +kernel
theorem d_M_search_2 : decode b_M_search 2 = .ok (.iconst 1, 1) := by decide +kernel
theorem d_M_search_3 : decode b_M_search 3 = .ok (.iadd, 1) := by decide +kernel
theorem d_M_search_4 : decode b_M_search 4 = .ok (.iconst 1, 1) := by decide +kernel
theorem d_M_search_5 : decode b_M_search 5 = .ok (.invokevirtual 197, 3) := by decide +kernel
theorem d_M_search_8 : decode b_M_search 8 = .ok (.iload_n 3, 1) := by decide +kernel
theorem d_M_search_9 : decode b_M_search 9 = .ok (.iconst 3, 1) := by decide +kernel
theorem d_M_search_10 : decode b_M_search 10 = .ok (.if_icmp .ne 13, 3) := by decide +kernel
theorem d_M_search_13 : decode b_M_search 13 = .ok (.aload_n 0, 1) := by decide +kernel
theorem d_M_search_14 : decode b_M_search 14 = .ok (.iload_n 2, 1) := by decide +kernel
theorem d_M_search_15 : decode b_M_search 15 = .ok (.iconst 2, 1) := by decide +kernel
theorem d_M_search_16 : decode b_M_search 16 = .ok (.iadd, 1) := by decide +kernel
theorem d_M_search_17 : decode b_M_search 17 = .ok (.invokevirtual 296, 3) := by decide +kernel
theorem d_M_search_20 : decode b_M_search 20 = .ok (.goto 4, 3) := by decide +kernel
theorem d_M_search_23 : decode b_M_search 23 = .ok (.lconst 1, 1) := by decide +kernel
theorem d_M_search_24 : decode b_M_search 24 = .ok (.lstore 4, 2) := by decide +kernel
theorem d_M_search_26 : decode b_M_search 26 = .ok (.aload_n 0, 1) := by decide +kernel
theorem d_M_search_27 : decode b_M_search 27 = .ok (.getfield 62, 3) := by decide +kernel
theorem d_M_search_30 : decode b_M_search 30 = .ok (.ifCond .le 4, 3) := by decide +kernel
theorem d_M_search_33 : decode b_M_search 33 = .ok (.return_, 1) := by decide +kernel
theorem d_M_search_34 : decode b_M_search 34 = .ok (.aload_n 0, 1) := by decide +kernel
theorem d_M_search_35 : decode b_M_search 35 = .ok (.getfield 40, 3) := by decide +kernel
theorem d_M_search_38 : decode b_M_search 38 = .ok (.iconst 1, 1) := by decide +kernel
theorem d_M_search_39 : decode b_M_search 39 = .ok (.iaload, 1) := by decide +kernel
theorem d_M_search_40 : decode b_M_search 40 = .ok (.istore 6, 2) := by decide +kernel
theorem d_M_search_42 : decode b_M_search 42 = .ok (.iconst 0, 1) := by decide +kernel
theorem d_M_search_43 : decode b_M_search 43 = .ok (.istore 7, 2) := by decide +kernel
theorem d_M_search_45 : decode b_M_search 45 = .ok (.lload 4, 2) := by decide +kernel
theorem d_M_search_47 : decode b_M_search 47 = .ok (.lstore 8, 2) := by decide +kernel
theorem d_M_search_49 : decode b_M_search 49 = .ok (.lload 8, 2) := by decide +kernel
theorem d_M_search_51 : decode b_M_search 51 = .ok (.lconst 1, 1) := by decide +kernel
theorem d_M_search_52 : decode b_M_search 52 = .ok (.lcmp, 1) := by decide +kernel
theorem d_M_search_53 : decode b_M_search 53 = .ok (.ifCond .lt 100, 3) := by decide +kernel
theorem d_M_search_56 : decode b_M_search 56 = .ok (.lload 8, 2) := by decide +kernel
theorem d_M_search_58 : decode b_M_search 58 = .ok (.iload 6, 2) := by decide +kernel
theorem d_M_search_60 : decode b_M_search 60 = .ok (.iconst 1, 1) := by decide +kernel
theorem d_M_search_61 : decode b_M_search 61 = .ok (.iadd, 1) := by decide +kernel
theorem d_M_search_62 : decode b_M_search 62 = .ok (.i2l, 1) := by decide +kernel
theorem d_M_search_63 : decode b_M_search 63 = .ok (.lcmp, 1) := by decide +kernel
theorem d_M_search_64 : decode b_M_search 64 = .ok (.ifCond .gt 89, 3) := by decide +kernel
theorem d_M_search_67 : decode b_M_search 67 = .ok (.iload 7, 2) := by decide +kernel
theorem d_M_search_69 : decode b_M_search 69 = .ok (.ifCond .ne 84, 3) := by decide +kernel
theorem d_M_search_72 : decode b_M_search 72 = .ok (.lload 8, 2) := by decide +kernel
theorem d_M_search_74 : decode b_M_search 74 = .ok (.l2i, 1) := by decide +kernel
theorem d_M_search_75 : decode b_M_search 75 = .ok (.iconst 1, 1) := by decide +kernel
theorem d_M_search_76 : decode b_M_search 76 = .ok (.isub, 1) := by decide +kernel
theorem d_M_search_77 : decode b_M_search 77 = .ok (.istore 10, 2) := by decide +kernel
theorem d_M_search_79 : decode b_M_search 79 = .ok (.iload_n 1, 1) := by decide +kernel
theorem d_M_search_80 : decode b_M_search 80 = .ok (.bipush 68, 2) := by decide +kernel
theorem d_M_search_82 : decode b_M_search 82 = .ok (.if_icmp .ne 14, 3) := by decide +kernel
theorem d_M_search_85 : decode b_M_search 85 = .ok (.aload_n 0, 1) := by decide +kernel
theorem d_M_search_86 : decode b_M_search 86 = .ok (.iconst 1, 1) := by decide +kernel
theorem d_M_search_87 : decode b_M_search 87 = .ok (.iload 10, 2) := by decide +kernel
theorem d_M_search_89 : decode b_M_search 89 = .ok (.iconst 0, 1) := by decide +kernel
theorem d_M_search_90 : decode b_M_search 90 = .ok (.invokevirtual 405, 3) := by decide +kernel
theorem d_M_search_93 : decode b_M_search 93 = .ok (.goto 34, 3) := by decide +kernel
theorem d_M_search_96 : decode b_M_search 96 = .ok (.aload_n 0, 1) := by decide +kernel
theorem d_M_search_97 : decode b_M_search 97 = .ok (.aload_n 0, 1) := by decide +kernel
theorem d_M_search_98 : decode b_M_search 98 = .ok (.getfield 43, 3) := by decide +kernel
theorem d_M_search_101 : decode b_M_search 101 = .ok (.sipush 256, 3) := by decide +kernel
theorem d_M_search_104 : decode b_M_search 104 = .ok (.iload 10, 2) := by decide +kernel
theorem d_M_search_106 : decode b_M_search 106 = .ok (.iadd, 1) := by decide +kernel
theorem d_M_search_107 : decode b_M_search 107 = .ok (.iload 6, 2) := by decide +kernel
theorem d_M_search_109 : decode b_M_search 109 = .ok (.iload 10, 2) := by decide +kernel
theorem d_M_search_111 : decode b_M_search 111 = .ok (.isub, 1) := by decide +kernel
theorem d_M_search_112 : decode b_M_search 112 = .ok (.aload_n 0, 1) := by decide +kernel
theorem d_M_search_113 : decode b_M_search 113 = .ok (.getfield 43, 3) := by decide +kernel
theorem d_M_search_116 : decode b_M_search 116 = .ok (.iconst 0, 1) := by decide +kernel
theorem d_M_search_117 : decode b_M_search 117 = .ok (.aload_n 0, 1) := by decide +kernel
theorem d_M_search_118 : decode b_M_search 118 = .ok (.getfield 40, 3) := by decide +kernel
theorem d_M_search_121 : decode b_M_search 121 = .ok (.iconst 0, 1) := by decide +kernel
theorem d_M_search_122 : decode b_M_search 122 = .ok (.iaload, 1) := by decide +kernel
theorem d_M_search_123 : decode b_M_search 123 = .ok (.iconst 1, 1) := by decide +kernel
theorem d_M_search_124 : decode b_M_search 124 = .ok (.invokevirtual 315, 3) := by decide +kernel
theorem d_M_search_127 : decode b_M_search 127 = .ok (.istore 11, 2) := by decide +kernel
theorem d_M_search_129 : decode b_M_search 129 = .ok (.iload 11, 2) := by decide +kernel
theorem d_M_search_131 : decode b_M_search 131 = .ok (.ifCond .eq 9, 3) := by decide +kernel
theorem d_M_search_134 : decode b_M_search 134 = .ok (.lload 8, 2) := by decide +kernel
theorem d_M_search_136 : decode b_M_search 136 = .ok (.l2i, 1) := by decide +kernel
theorem d_M_search_137 : decode b_M_search 137 = .ok (.goto 5, 3) := by decide +kernel
theorem d_M_search_140 : decode b_M_search 140 = .ok (.iload 7, 2) := by decide +kernel
theorem d_M_search_142 : decode b_M_search 142 = .ok (.istore 7, 2) := by decide +kernel
theorem d_M_search_144 : decode b_M_search 144 = .ok (.lload 8, 2) := by decide +kernel
theorem d_M_search_146 : decode b_M_search 146 = .ok (.lconst 1, 1) := by decide +kernel
theorem d_M_search_147 : decode b_M_search 147 = .ok (.ladd, 1) := by decide +kernel
theorem d_M_search_148 : decode b_M_search 148 = .ok (.lstore 8, 2) := by decide +kernel
theorem d_M_search_150 : decode b_M_search 150 = .ok (.goto (-101), 3) := by decide +kernel
theorem d_M_search_153 : decode b_M_search 153 = .ok (.iload 7, 2) := by decide +kernel
theorem d_M_search_155 : decode b_M_search 155 = .ok (.ifCond .ne 8, 3) := by decide +kernel
theorem d_M_search_158 : decode b_M_search 158 = .ok (.aload_n 0, 1) := by decide +kernel
theorem d_M_search_159 : decode b_M_search 159 = .ok (.iconst 3, 1) := by decide +kernel
theorem d_M_search_160 : decode b_M_search 160 = .ok (.invokevirtual 58, 3) := by decide +kernel
theorem d_M_search_163 : decode b_M_search 163 = .ok (.aload_n 0, 1) := by decide +kernel
theorem d_M_search_164 : decode b_M_search 164 = .ok (.iload 7, 2) := by decide +kernel
theorem d_M_search_166 : decode b_M_search 166 = .ok (.i2d, 1) := by decide +kernel
theorem d_M_search_167 : decode b_M_search 167 = .ok (.invokevirtual 207, 3) := by decide +kernel
theorem d_M_search_170 : decode b_M_search 170 = .ok (.return_, 1) := by decide +kernel
theorem p_M_search_b163 (d : Nat)  (v0 : Option Nat) (v7 : Int32) (h : gk_H) : gk_P gw_V (d + 5) y_M_search b_M_search 12 none [] (f_M_search_b163  v0 v7 h) 163 [(0, va_rf v0), (7, .int v7)] [] h := by
  unfold f_M_search_b163
  refine gk_aload_n (pc := 163) 0 d_M_search_163 rfl ?_
  refine gk_iload (pc := 164) 1 d_M_search_164 rfl ?_
  refine gk_i2d (pc := 166) d_M_search_166 ?_
  refine gk_callV (pc := 167) (d := (d + 4)) (w' := gv_V) (as := [.double (FP.i2d v7)]) (n := 1) 7 d_M_search_167 rfl rfl rfl rfl (Nat.le_of_ble_eq_true rfl) tw_1916 tw_1918 tw_38 tw_99 cw_M_answerNumber hy_M_answerNumber (Nat.le_of_ble_eq_true rfl) (p_M_answerNumber (d + 3) v0 (FP.i2d v7) h) fun _ h1 => ?_
  exact gk_vret (pc := 170) rfl d_M_search_170 rfl
theorem p_M_search_b153 (d : Nat)  (v0 : Option Nat) (v7 : Int32) (h : gk_H) : gk_P gw_V (d + 5) y_M_search b_M_search 12 none [] (f_M_search_b153  v0 v7 h) 153 [(0, va_rf v0), (7, .int v7)] [] h := by
  unfold f_M_search_b153
  refine gk_iload (pc := 153) 1 d_M_search_153 rfl ?_
  refine gk_if_ne (pc := 155) 163 d_M_search_155 rfl (fun _ => ?_) (fun _ => ?_)
  · refine gk_aload_n (pc := 158) 0 d_M_search_158 rfl ?_
    refine gk_iconst (pc := 159) (3 : Int32) d_M_search_159 rfl ?_
    refine gk_callV (pc := 160) (d := (d + 4)) (w' := gv_V) (as := [.int (3 : Int32)]) (n := 1) 7 d_M_search_160 rfl rfl rfl rfl (Nat.le_of_ble_eq_true rfl) tw_1805 tw_1807 tw_21 tw_99 cw_M_fail hy_M_fail (Nat.le_of_ble_eq_true rfl) (p_M_fail (d + 4) v0 (3 : Int32) h) fun _ h1 => ?_
    exact p_M_search_b163 d v0 v7 h1
  · exact p_M_search_b163 d v0 v7 h
theorem p_M_search_b142 (d : Nat) (b49 : Option Nat → Int32 → Int32 → Int32 → Int64 → gk_H → Option (Unit × gk_H)) (q49 : ∀ (v0 : Option Nat) (v1 : Int32) (v6 : Int32) (v7 : Int32) (v8 : Int64) (h : gk_H), gk_P gw_V (d + 5) y_M_search b_M_search 12 none [] (b49 v0 v1 v6 v7 v8 h) 49 [(0, va_rf v0), (1, .int v1), (6, .int v6), (7, .int v7), (8, .long v8)] [] h) (v0 : Option Nat) (v1 : Int32) (v6 : Int32) (v8 : Int64) (s0 : Int32) (h : gk_H) : gk_P gw_V (d + 5) y_M_search b_M_search 12 none [] (f_M_search_b142 b49 v0 v1 v6 v8 s0 h) 142 [(0, va_rf v0), (1, .int v1), (6, .int v6), (8, .long v8)] [.int s0] h := by
  unfold f_M_search_b142
  refine gk_istore (pc := 142) (L' := [(7, .int s0), (0, va_rf v0), (1, .int v1), (6, .int v6), (8, .long v8)]) d_M_search_142 (Nat.le_of_ble_eq_true rfl) rfl ?_
  refine gk_lload (pc := 144) 4 d_M_search_144 rfl ?_
  refine gk_lconst (pc := 146) (1 : Int64) d_M_search_146 rfl ?_
  refine gk_ladd (pc := 147) d_M_search_147 ?_
  refine gk_topJ (pc := 148) fun x1 => ?_
  refine gk_lstore (pc := 148) (L' := [(8, .long x1), (7, .int s0), (0, va_rf v0), (1, .int v1), (6, .int v6)]) d_M_search_148 (Nat.le_of_ble_eq_true rfl) rfl ?_
  refine gk_goto (pc := 150) 49 d_M_search_150 rfl ?_
  refine gk_weak [2, 3, 4, 1, 0] (L' := [(0, va_rf v0), (1, .int v1), (6, .int v6), (7, .int s0), (8, .long x1)]) rfl ?_
  exact q49 v0 v1 v6 s0 x1 h
theorem p_M_search_b127 (d : Nat) (b49 : Option Nat → Int32 → Int32 → Int32 → Int64 → gk_H → Option (Unit × gk_H)) (q49 : ∀ (v0 : Option Nat) (v1 : Int32) (v6 : Int32) (v7 : Int32) (v8 : Int64) (h : gk_H), gk_P gw_V (d + 5) y_M_search b_M_search 12 none [] (b49 v0 v1 v6 v7 v8 h) 49 [(0, va_rf v0), (1, .int v1), (6, .int v6), (7, .int v7), (8, .long v8)] [] h) (v0 : Option Nat) (v1 : Int32) (v6 : Int32) (v7 : Int32) (v8 : Int64) (s0 : Int32) (h : gk_H) : gk_P gw_V (d + 5) y_M_search b_M_search 12 none [] (f_M_search_b127 b49 v0 v1 v6 v7 v8 s0 h) 127 [(0, va_rf v0), (1, .int v1), (6, .int v6), (7, .int v7), (8, .long v8)] [.int s0] h := by
  unfold f_M_search_b127
  refine gk_istore (pc := 127) (L' := [(11, .int s0), (0, va_rf v0), (1, .int v1), (6, .int v6), (7, .int v7), (8, .long v8)]) d_M_search_127 (Nat.le_of_ble_eq_true rfl) rfl ?_
  refine gk_iload (pc := 129) 0 d_M_search_129 rfl ?_
  refine gk_if_eq (pc := 131) 140 d_M_search_131 rfl (fun _ => ?_) (fun _ => ?_)
  · refine gk_iload (pc := 140) 4 d_M_search_140 rfl ?_
    refine gk_weak [1, 2, 3, 5] (L' := [(0, va_rf v0), (1, .int v1), (6, .int v6), (8, .long v8)]) rfl ?_
    exact p_M_search_b142 d b49 q49 v0 v1 v6 v8 v7 h
  · refine gk_lload (pc := 134) 5 d_M_search_134 rfl ?_
    refine gk_l2i (pc := 136) d_M_search_136 ?_
    refine gk_goto (pc := 137) 142 d_M_search_137 rfl ?_
    refine gk_weak [1, 2, 3, 5] (L' := [(0, va_rf v0), (1, .int v1), (6, .int v6), (8, .long v8)]) rfl ?_
    exact p_M_search_b142 d b49 q49 v0 v1 v6 v8 (Int64.toInt32 v8) h
theorem p_M_search_b49 (d : Nat)  : ∀ (fu : Nat) (v0 : Option Nat) (v1 : Int32) (v6 : Int32) (v7 : Int32) (v8 : Int64) (h : gk_H), gk_P gw_V (d + 5) y_M_search b_M_search 12 none [] (f_M_search_b49  fu v0 v1 v6 v7 v8 h) 49 [(0, va_rf v0), (1, .int v1), (6, .int v6), (7, .int v7), (8, .long v8)] [] h := by
  intro fu
  induction fu with
  | zero => intros; exact gk_none
  | succ fu q49 =>
    intro v0 v1 v6 v7 v8 h
    rw [f_M_search_b49]
    refine gk_lload (pc := 49) 4 d_M_search_49 rfl ?_
    refine gk_lconst (pc := 51) (1 : Int64) d_M_search_51 rfl ?_
    refine gk_lcmp (pc := 52) d_M_search_52 ?_
    refine gk_if_lt (pc := 53) 153 d_M_search_53 rfl (fun _ => ?_) (fun _ => ?_)
    · refine gk_weak [0, 3] (L' := [(0, va_rf v0), (7, .int v7)]) rfl ?_
      exact p_M_search_b153 d v0 v7 h
    · refine gk_lload (pc := 56) 4 d_M_search_56 rfl ?_
      refine gk_iload (pc := 58) 2 d_M_search_58 rfl ?_
      refine gk_iconst (pc := 60) (1 : Int32) d_M_search_60 rfl ?_
      refine gk_iadd (pc := 61) d_M_search_61 ?_
      refine gk_i2l (pc := 62) d_M_search_62 ?_
      refine gk_lcmp (pc := 63) d_M_search_63 ?_
      refine gk_if_gt (pc := 64) 153 d_M_search_64 rfl (fun _ => ?_) (fun _ => ?_)
      · refine gk_weak [0, 3] (L' := [(0, va_rf v0), (7, .int v7)]) rfl ?_
        exact p_M_search_b153 d v0 v7 h
      · refine gk_iload (pc := 67) 3 d_M_search_67 rfl ?_
        refine gk_if_ne (pc := 69) 153 d_M_search_69 rfl (fun _ => ?_) (fun _ => ?_)
        · refine gk_lload (pc := 72) 4 d_M_search_72 rfl ?_
          refine gk_l2i (pc := 74) d_M_search_74 ?_
          refine gk_iconst (pc := 75) (1 : Int32) d_M_search_75 rfl ?_
          refine gk_isub (pc := 76) d_M_search_76 ?_
          refine gk_topI (pc := 77) fun x1 => ?_
          refine gk_istore (pc := 77) (L' := [(10, .int x1), (0, va_rf v0), (1, .int v1), (6, .int v6), (7, .int v7), (8, .long v8)]) d_M_search_77 (Nat.le_of_ble_eq_true rfl) rfl ?_
          refine gk_iload_n (pc := 79) 2 d_M_search_79 rfl ?_
          refine gk_bipush (pc := 80) (68 : Int32) d_M_search_80 rfl ?_
          refine gk_icmp_ne (pc := 82) 96 d_M_search_82 rfl (fun _ => ?_) (fun _ => ?_)
          · refine gk_aload_n (pc := 85) 1 d_M_search_85 rfl ?_
            refine gk_iconst (pc := 86) (1 : Int32) d_M_search_86 rfl ?_
            refine gk_iload (pc := 87) 0 d_M_search_87 rfl ?_
            refine gk_iconst (pc := 89) (0 : Int32) d_M_search_89 rfl ?_
            refine gk_callV (pc := 90) (d := (d + 4)) (w' := gv_I) (as := [.int (1 : Int32), .int x1, .int (0 : Int32)]) (n := 3) 7 d_M_search_90 rfl rfl rfl rfl (Nat.le_of_ble_eq_true rfl) tw_2092 tw_2094 tw_74 tw_99 cw_M_isAt hy_M_isAt (Nat.le_of_ble_eq_true rfl) (p_M_isAt (d + 4) v0 (1 : Int32) x1 (0 : Int32) h) fun x2 h1 => ?_
            refine gk_goto (pc := 93) 127 d_M_search_93 rfl ?_
            refine gk_weak [1, 2, 3, 4, 5] (L' := [(0, va_rf v0), (1, .int v1), (6, .int v6), (7, .int v7), (8, .long v8)]) rfl ?_
            exact p_M_search_b127 d (f_M_search_b49 fu) q49 v0 v1 v6 v7 v8 x2 h1
          · refine gk_aload_n (pc := 96) 1 d_M_search_96 rfl ?_
            refine gk_aload_n (pc := 97) 1 d_M_search_97 rfl ?_
            refine gk_getR (pc := 98) 7 15 d_M_search_98 rfl (Nat.le_of_ble_eq_true rfl) tw_1660 fun x3 => ?_
            refine gk_sipush (pc := 101) (256 : Int32) d_M_search_101 rfl ?_
            refine gk_iload (pc := 104) 0 d_M_search_104 rfl ?_
            refine gk_iadd (pc := 106) d_M_search_106 ?_
            refine gk_iload (pc := 107) 3 d_M_search_107 rfl ?_
            refine gk_iload (pc := 109) 0 d_M_search_109 rfl ?_
            refine gk_isub (pc := 111) d_M_search_111 ?_
            refine gk_aload_n (pc := 112) 1 d_M_search_112 rfl ?_
            refine gk_getR (pc := 113) 7 15 d_M_search_113 rfl (Nat.le_of_ble_eq_true rfl) tw_1660 fun x4 => ?_
            refine gk_iconst (pc := 116) (0 : Int32) d_M_search_116 rfl ?_
            refine gk_aload_n (pc := 117) 1 d_M_search_117 rfl ?_
            refine gk_getR (pc := 118) 7 14 d_M_search_118 rfl (Nat.le_of_ble_eq_true rfl) tw_1659 fun x5 => ?_
            refine gk_iconst (pc := 121) (0 : Int32) d_M_search_121 rfl ?_
            refine gk_iald (pc := 122) d_M_search_122 fun x6 => ?_
            refine gk_iconst (pc := 123) (1 : Int32) d_M_search_123 rfl ?_
            refine gk_callV (pc := 124) (d := (d + 4)) (w' := gv_I) (as := [va_rf x3, .int ((256 : Int32) + x1), .int (v6 - x1), va_rf x4, .int (0 : Int32), .int x6, .int (1 : Int32)]) (n := 7) 7 d_M_search_124 rfl rfl rfl rfl (Nat.le_of_ble_eq_true rfl) tw_1999 tw_2001 tw_56 tw_99 cw_M_isLike hy_M_isLike (Nat.le_of_ble_eq_true rfl) (p_M_isLike (d + 3) v0 x3 ((256 : Int32) + x1) (v6 - x1) x4 (0 : Int32) x6 (1 : Int32) h) fun x7 h2 => ?_
            refine gk_weak [1, 2, 3, 4, 5] (L' := [(0, va_rf v0), (1, .int v1), (6, .int v6), (7, .int v7), (8, .long v8)]) rfl ?_
            exact p_M_search_b127 d (f_M_search_b49 fu) q49 v0 v1 v6 v7 v8 x7 h2
        · refine gk_weak [0, 3] (L' := [(0, va_rf v0), (7, .int v7)]) rfl ?_
          exact p_M_search_b153 d v0 v7 h
theorem p_M_search_b24 (d : Nat)  (v0 : Option Nat) (v1 : Int32) (s0 : Int64) (h : gk_H) : gk_P gw_V (d + 5) y_M_search b_M_search 12 none [] (f_M_search_b24  v0 v1 s0 h) 24 [(0, va_rf v0), (1, .int v1)] [.long s0] h := by
  unfold f_M_search_b24
  refine gk_lstore (pc := 24) (L' := [(4, .long s0), (0, va_rf v0), (1, .int v1)]) d_M_search_24 (Nat.le_of_ble_eq_true rfl) rfl ?_
  refine gk_aload_n (pc := 26) 1 d_M_search_26 rfl ?_
  refine gk_getI (pc := 27) 7 11 d_M_search_27 rfl (Nat.le_of_ble_eq_true rfl) tw_1656 fun x1 => ?_
  refine gk_if_le (pc := 30) 34 d_M_search_30 rfl (fun _ => ?_) (fun _ => ?_)
  · refine gk_aload_n (pc := 34) 1 d_M_search_34 rfl ?_
    refine gk_getR (pc := 35) 7 14 d_M_search_35 rfl (Nat.le_of_ble_eq_true rfl) tw_1659 fun x2 => ?_
    refine gk_iconst (pc := 38) (1 : Int32) d_M_search_38 rfl ?_
    refine gk_iald (pc := 39) d_M_search_39 fun x3 => ?_
    refine gk_istore (pc := 40) (L' := [(6, .int x3), (4, .long s0), (0, va_rf v0), (1, .int v1)]) d_M_search_40 (Nat.le_of_ble_eq_true rfl) rfl ?_
    refine gk_iconst (pc := 42) (0 : Int32) d_M_search_42 rfl ?_
    refine gk_istore (pc := 43) (L' := [(7, .int (0 : Int32)), (6, .int x3), (4, .long s0), (0, va_rf v0), (1, .int v1)]) d_M_search_43 (Nat.le_of_ble_eq_true rfl) rfl ?_
    refine gk_lload (pc := 45) 2 d_M_search_45 rfl ?_
    refine gk_lstore (pc := 47) (L' := [(8, .long s0), (7, .int (0 : Int32)), (6, .int x3), (4, .long s0), (0, va_rf v0), (1, .int v1)]) d_M_search_47 (Nat.le_of_ble_eq_true rfl) rfl ?_
    refine gk_weak [4, 5, 2, 1, 0] (L' := [(0, va_rf v0), (1, .int v1), (6, .int x3), (7, .int (0 : Int32)), (8, .long s0)]) rfl ?_
    exact p_M_search_b49 d gk_F v0 v1 x3 (0 : Int32) s0 h
  · exact gk_vret (pc := 33) rfl d_M_search_33 rfl
theorem w_M_search (d : Nat) (a0 : Option Nat) (a1 : Int32) (a2 : Int32) (a3 : Int32) (h : gk_H) : gk_P gw_V (d + 5) y_M_search b_M_search 12 none [] (f_M_search a0 a1 a2 a3 h) 0 [(0, va_rf a0), (1, .int a1), (2, .int a2), (3, .int a3)] [] h := by
  unfold f_M_search
  refine gk_aload_n (pc := 0) 0 d_M_search_0 rfl ?_
  refine gk_iload_n (pc := 1) 2 d_M_search_1 rfl ?_
  refine gk_iconst (pc := 2) (1 : Int32) d_M_search_2 rfl ?_
  refine gk_iadd (pc := 3) d_M_search_3 ?_
  refine gk_iconst (pc := 4) (1 : Int32) d_M_search_4 rfl ?_
  refine gk_callV (pc := 5) (d := (d + 4)) (w' := gv_V) (as := [.int (a2 + (1 : Int32)), .int (1 : Int32)]) (n := 2) 7 d_M_search_5 rfl rfl rfl rfl (Nat.le_of_ble_eq_true rfl) tw_1830 tw_1832 tw_25 tw_99 cw_M_wantText hy_M_wantText (Nat.le_of_ble_eq_true rfl) (p_M_wantText (d + 1) a0 (a2 + (1 : Int32)) (1 : Int32) h) fun _ h1 => ?_
  refine gk_iload_n (pc := 8) 3 d_M_search_8 rfl ?_
  refine gk_iconst (pc := 9) (3 : Int32) d_M_search_9 rfl ?_
  refine gk_icmp_ne (pc := 10) 23 d_M_search_10 rfl (fun _ => ?_) (fun _ => ?_)
  · refine gk_aload_n (pc := 13) 0 d_M_search_13 rfl ?_
    refine gk_iload_n (pc := 14) 2 d_M_search_14 rfl ?_
    refine gk_iconst (pc := 15) (2 : Int32) d_M_search_15 rfl ?_
    refine gk_iadd (pc := 16) d_M_search_16 ?_
    refine gk_callV (pc := 17) (d := (d + 4)) (w' := gv_J) (as := [.int (a2 + (2 : Int32))]) (n := 1) 7 d_M_search_17 rfl rfl rfl rfl (Nat.le_of_ble_eq_true rfl) tw_1954 tw_1956 tw_45 tw_99 cw_M_wantWhole hy_M_wantWhole (Nat.le_of_ble_eq_true rfl) (p_M_wantWhole d a0 (a2 + (2 : Int32)) h1) fun x1 h2 => ?_
    refine gk_goto (pc := 20) 24 d_M_search_20 rfl ?_
    refine gk_weak [0, 1] (L' := [(0, va_rf a0), (1, .int a1)]) rfl ?_
    exact p_M_search_b24 d a0 a1 x1 h2
  · refine gk_lconst (pc := 23) (1 : Int64) d_M_search_23 rfl ?_
    refine gk_weak [0, 1] (L' := [(0, va_rf a0), (1, .int a1)]) rfl ?_
    exact p_M_search_b24 d a0 a1 (1 : Int64) h1
theorem p_M_search (d : Nat) (a0 : Option Nat) (a1 : Int32) (a2 : Int32) (a3 : Int32) (h : gk_H) : ∀ r h1, f_M_search a0 a1 a2 a3 h = some (r, h1) → gk_M (d + 5) y_M_search b_M_search 12 none [va_rf a0, .int a1, .int a2, .int a3] h (.inl (gv_V r)) h1 :=
  fun r h1 e => gk_M_of2 (by decide +kernel) (by simp [lv_args, gk_cat_rf, gk_catI, gk_catJ, gk_catD, gv_V, gv_I, gv_J, gv_D, gv_R]) (by simp [lg_sl, gk_cat_rf, gk_catI, gk_catJ, gk_catD, gv_V, gv_I, gv_J, gv_D, gv_R]) (w_M_search d a0 a1 a2 a3 h r h1 e)
theorem d_M_parts_0 : decode b_M_parts 0 = .ok (.iload_n 1, 1) := by decide +kernel
theorem d_M_parts_1 : decode b_M_parts 1 = .ok (.bipush 56, 2) := by decide +kernel
theorem d_M_parts_3 : decode b_M_parts 3 = .ok (.if_icmp .ne 15, 3) := by decide +kernel
theorem d_M_parts_6 : decode b_M_parts 6 = .ok (.aload_n 0, 1) := by decide +kernel
theorem d_M_parts_7 : decode b_M_parts 7 = .ok (.aload_n 0, 1) := by decide +kernel
theorem d_M_parts_8 : decode b_M_parts 8 = .ok (.getfield 40, 3) := by decide +kernel
theorem d_M_parts_11 : decode b_M_parts 11 = .ok (.iconst 0, 1) := by decide +kernel
theorem d_M_parts_12 : decode b_M_parts 12 = .ok (.iaload, 1) := by decide +kernel
theorem d_M_parts_13 : decode b_M_parts 13 = .ok (.i2d, 1) := by decide +kernel
theorem d_M_parts_14 : decode b_M_parts 14 = .ok (.invokevirtual 207, 3) := by decide +kernel
theorem d_M_parts_17 : decode b_M_parts 17 = .ok (.return_, 1) := by decide +kernel
theorem d_M_parts_18 : decode b_M_parts 18 = .ok (.iload_n 3, 1) := by decide +kernel
theorem d_M_parts_19 : decode b_M_parts 19 = .ok (.iconst 1, 1) := by decide +kernel
theorem d_M_parts_20 : decode b_M_parts 20 = .ok (.if_icmp .le 13, 3) := by decide +kernel
theorem d_M_parts_23 : decode b_M_parts 23 = .ok (.aload_n 0, 1) := by decide +kernel
theorem d_M_parts_24 : decode b_M_parts 24 = .ok (.iload_n 2, 1) := by decide +kernel
theorem d_M_parts_25 : decode b_M_parts 25 = .ok (.iconst 1, 1) := by decide +kernel
theorem d_M_parts_26 : decode b_M_parts 26 = .ok (.iadd, 1) := by decide +kernel
theorem d_M_parts_27 : decode b_M_parts 27 = .ok (.invokevirtual 296, 3) := by decide +kernel
theorem d_M_parts_30 : decode b_M_parts 30 = .ok (.goto 4, 3) := by decide +kernel
theorem d_M_parts_33 : decode b_M_parts 33 = .ok (.lconst 1, 1) := by decide +kernel
theorem d_M_parts_34 : decode b_M_parts 34 = .ok (.lstore 4, 2) := by decide +kernel
theorem d_M_parts_36 : decode b_M_parts 36 = .ok (.iload_n 1, 1) := by decide +kernel
theorem d_M_parts_37 : decode b_M_parts 37 = .ok (.bipush 59, 2) := by decide +kernel
theorem d_M_parts_39 : decode b_M_parts 39 = .ok (.if_icmp .eq 9, 3) := by decide +kernel
theorem d_M_parts_42 : decode b_M_parts 42 = .ok (.iload_n 1, 1) := by decide +kernel
theorem d_M_parts_43 : decode b_M_parts 43 = .ok (.bipush 67, 2) := by decide +kernel
theorem d_M_parts_45 : decode b_M_parts 45 = .ok (.if_icmp .ne 13, 3) := by decide +kernel
theorem d_M_parts_48 : decode b_M_parts 48 = .ok (.aload_n 0, 1) := by decide +kernel
theorem d_M_parts_49 : decode b_M_parts 49 = .ok (.iload_n 2, 1) := by decide +kernel
theorem d_M_parts_50 : decode b_M_parts 50 = .ok (.iconst 2, 1) := by decide +kernel
theorem d_M_parts_51 : decode b_M_parts 51 = .ok (.iadd, 1) := by decide +kernel
theorem d_M_parts_52 : decode b_M_parts 52 = .ok (.invokevirtual 296, 3) := by decide +kernel
theorem d_M_parts_55 : decode b_M_parts 55 = .ok (.goto 4, 3) := by decide +kernel
theorem d_M_parts_58 : decode b_M_parts 58 = .ok (.lconst 0, 1) := by decide +kernel
theorem d_M_parts_59 : decode b_M_parts 59 = .ok (.lstore 6, 2) := by decide +kernel
theorem d_M_parts_61 : decode b_M_parts 61 = .ok (.iload_n 1, 1) := by decide +kernel
theorem d_M_parts_62 : decode b_M_parts 62 = .ok (.bipush 67, 2) := by decide +kernel
theorem d_M_parts_64 : decode b_M_parts 64 = .ok (.if_icmp .ne 11, 3) := by decide +kernel
theorem d_M_parts_67 : decode b_M_parts 67 = .ok (.aload_n 0, 1) := by decide +kernel
theorem d_M_parts_68 : decode b_M_parts 68 = .ok (.iload_n 2, 1) := by decide +kernel
theorem d_M_parts_69 : decode b_M_parts 69 = .ok (.iconst 3, 1) := by decide +kernel
theorem d_M_parts_70 : decode b_M_parts 70 = .ok (.iadd, 1) := by decide +kernel
theorem d_M_parts_71 : decode b_M_parts 71 = .ok (.iconst 1, 1) := by decide +kernel
theorem d_M_parts_72 : decode b_M_parts 72 = .ok (.invokevirtual 197, 3) := by decide +kernel
theorem d_M_parts_75 : decode b_M_parts 75 = .ok (.iload_n 1, 1) := by decide +kernel
theorem d_M_parts_76 : decode b_M_parts 76 = .ok (.bipush 59, 2) := by decide +kernel
theorem d_M_parts_78 : decode b_M_parts 78 = .ok (.if_icmp .eq 9, 3) := by decide +kernel
theorem d_M_parts_81 : decode b_M_parts 81 = .ok (.iload_n 1, 1) := by decide +kernel
theorem d_M_parts_82 : decode b_M_parts 82 = .ok (.bipush 67, 2) := by decide +kernel
theorem d_M_parts_84 : decode b_M_parts 84 = .ok (.if_icmp .ne 7, 3) := by decide +kernel
theorem d_M_parts_87 : decode b_M_parts 87 = .ok (.iconst 1, 1) := by decide +kernel
theorem d_M_parts_88 : decode b_M_parts 88 = .ok (.goto 4, 3) := by decide +kernel
theorem d_M_parts_91 : decode b_M_parts 91 = .ok (.iconst 0, 1) := by decide +kernel
theorem d_M_parts_92 : decode b_M_parts 92 = .ok (.istore 8, 2) := by decide +kernel
theorem d_M_parts_94 : decode b_M_parts 94 = .ok (.aload_n 0, 1) := by decide +kernel
theorem d_M_parts_95 : decode b_M_parts 95 = .ok (.getfield 62, 3) := by decide +kernel
theorem d_M_parts_98 : decode b_M_parts 98 = .ok (.ifCond .ne 37, 3) := by decide +kernel
theorem d_M_parts_101 : decode b_M_parts 101 = .ok (.iload 8, 2) := by decide +kernel
theorem d_M_parts_103 : decode b_M_parts 103 = .ok (.ifCond .eq 20, 3) := by decide +kernel
theorem d_M_parts_106 : decode b_M_parts 106 = .ok (.lload 4, 2) := by decide +kernel
theorem d_M_parts_108 : decode b_M_parts 108 = .ok (.lconst 1, 1) := by decide +kernel
theorem d_M_parts_109 : decode b_M_parts 109 = .ok (.lcmp, 1) := by decide +kernel
theorem d_M_parts_110 : decode b_M_parts 110 = .ok (.ifCond .lt 20, 3) := by decide +kernel
theorem d_M_parts_113 : decode b_M_parts 113 = .ok (.lload 6, 2) := by decide +kernel
theorem d_M_parts_115 : decode b_M_parts 115 = .ok (.lconst 0, 1) := by decide +kernel
theorem d_M_parts_116 : decode b_M_parts 116 = .ok (.lcmp, 1) := by decide +kernel
theorem d_M_parts_117 : decode b_M_parts 117 = .ok (.ifCond .ge 18, 3) := by decide +kernel
theorem d_M_parts_120 : decode b_M_parts 120 = .ok (.goto 10, 3) := by decide +kernel
theorem d_M_parts_123 : decode b_M_parts 123 = .ok (.lload 4, 2) := by decide +kernel
theorem d_M_parts_125 : decode b_M_parts 125 = .ok (.lconst 0, 1) := by decide +kernel
theorem d_M_parts_126 : decode b_M_parts 126 = .ok (.lcmp, 1) := by decide +kernel
theorem d_M_parts_127 : decode b_M_parts 127 = .ok (.ifCond .ge 8, 3) := by decide +kernel
theorem d_M_parts_130 : decode b_M_parts 130 = .ok (.aload_n 0, 1) := by decide +kernel
theorem d_M_parts_131 : decode b_M_parts 131 = .ok (.iconst 3, 1) := by decide +kernel
theorem d_M_parts_132 : decode b_M_parts 132 = .ok (.invokevirtual 58, 3) := by decide +kernel
theorem d_M_parts_135 : decode b_M_parts 135 = .ok (.aload_n 0, 1) := by decide +kernel
theorem d_M_parts_136 : decode b_M_parts 136 = .ok (.getfield 62, 3) := by decide +kernel
theorem d_M_parts_139 : decode b_M_parts 139 = .ok (.ifCond .le 4, 3) := by decide +kernel
theorem d_M_parts_142 : decode b_M_parts 142 = .ok (.return_, 1) := by decide +kernel
theorem d_M_parts_143 : decode b_M_parts 143 = .ok (.aload_n 0, 1) := by decide +kernel
theorem d_M_parts_144 : decode b_M_parts 144 = .ok (.bipush 16, 2) := by decide +kernel
theorem d_M_parts_146 : decode b_M_parts 146 = .ok (.iconst 2, 1) := by decide +kernel
theorem d_M_parts_147 : decode b_M_parts 147 = .ok (.dconst 0, 1) := by decide +kernel
theorem d_M_parts_148 : decode b_M_parts 148 = .ok (.invokevirtual 76, 3) := by decide +kernel
theorem d_M_parts_151 : decode b_M_parts 151 = .ok (.aload_n 0, 1) := by decide +kernel
theorem d_M_parts_152 : decode b_M_parts 152 = .ok (.getfield 40, 3) := by decide +kernel
theorem d_M_parts_155 : decode b_M_parts 155 = .ok (.iconst 0, 1) := by decide +kernel
theorem d_M_parts_156 : decode b_M_parts 156 = .ok (.iaload, 1) := by decide +kernel
theorem d_M_parts_157 : decode b_M_parts 157 = .ok (.istore 9, 2) := by decide +kernel
theorem d_M_parts_159 : decode b_M_parts 159 = .ok (.iload_n 1, 1) := by decide +kernel
theorem d_M_parts_160 : decode b_M_parts 160 = .ok (.tableswitch 175 57 65 #[52, 63, 93, 175, 175, 175, 175, 175, 112], 52) := by decide +kernel
theorem d_M_parts_212 : decode b_M_parts 212 = .ok (.aload_n 0, 1) := by decide +kernel
theorem d_M_parts_213 : decode b_M_parts 213 = .ok (.iconst 0, 1) := by decide +kernel
theorem d_M_parts_214 : decode b_M_parts 214 = .ok (.lconst 0, 1) := by decide +kernel
theorem d_M_parts_215 : decode b_M_parts 215 = .ok (.lload 4, 2) := by decide +kernel
theorem d_M_parts_217 : decode b_M_parts 217 = .ok (.invokevirtual 401, 3) := by decide +kernel
theorem d_M_parts_220 : decode b_M_parts 220 = .ok (.goto 153, 3) := by decide +kernel
theorem d_M_parts_223 : decode b_M_parts 223 = .ok (.aload_n 0, 1) := by decide +kernel
theorem d_M_parts_224 : decode b_M_parts 224 = .ok (.iconst 0, 1) := by decide +kernel
theorem d_M_parts_225 : decode b_M_parts 225 = .ok (.lload 4, 2) := by decide +kernel
theorem d_M_parts_227 : decode b_M_parts 227 = .ok (.iload 9, 2) := by decide +kernel
theorem d_M_parts_229 : decode b_M_parts 229 = .ok (.i2l, 1) := by decide +kernel
theorem d_M_parts_230 : decode b_M_parts 230 = .ok (.lcmp, 1) := by decide +kernel
theorem d_M_parts_231 : decode b_M_parts 231 = .ok (.ifCond .ge 12, 3) := by decide +kernel
theorem d_M_parts_234 : decode b_M_parts 234 = .ok (.iload 9, 2) := by decide +kernel
theorem d_M_parts_236 : decode b_M_parts 236 = .ok (.i2l, 1) := by decide +kernel
theorem d_M_parts_237 : decode b_M_parts 237 = .ok (.lload 4, 2) := by decide +kernel
theorem d_M_parts_239 : decode b_M_parts 239 = .ok (.lsub, 1) := by decide +kernel
theorem d_M_parts_240 : decode b_M_parts 240 = .ok (.goto 4, 3) := by decide +kernel
theorem d_M_parts_243 : decode b_M_parts 243 = .ok (.lconst 0, 1) := by decide +kernel
theorem d_M_parts_244 : decode b_M_parts 244 = .ok (.iload 9, 2) := by decide +kernel
theorem d_M_parts_246 : decode b_M_parts 246 = .ok (.i2l, 1) := by decide +kernel
theorem d_M_parts_247 : decode b_M_parts 247 = .ok (.invokevirtual 401, 3) := by decide +kernel
theorem d_M_parts_250 : decode b_M_parts 250 = .ok (.goto 123, 3) := by decide +kernel
theorem d_M_parts_253 : decode b_M_parts 253 = .ok (.aload_n 0, 1) := by decide +kernel
theorem d_M_parts_254 : decode b_M_parts 254 = .ok (.iconst 0, 1) := by decide +kernel
theorem d_M_parts_255 : decode b_M_parts 255 = .ok (.lload 4, 2) := by decide +kernel
theorem d_M_parts_257 : decode b_M_parts 257 = .ok (.lconst 1, 1) := by decide +kernel
theorem d_M_parts_258 : decode b_M_parts 258 = .ok (.lsub, 1) := by decide +kernel
theorem d_M_parts_259 : decode b_M_parts 259 = .ok (.lload 4, 2) := by decide +kernel
theorem d_M_parts_261 : decode b_M_parts 261 = .ok (.lconst 1, 1) := by decide +kernel
theorem d_M_parts_262 : decode b_M_parts 262 = .ok (.lsub, 1) := by decide +kernel
theorem d_M_parts_263 : decode b_M_parts 263 = .ok (.lload 6, 2) := by decide +kernel
theorem d_M_parts_265 : decode b_M_parts 265 = .ok (.ladd, 1) := by decide +kernel
theorem d_M_parts_266 : decode b_M_parts 266 = .ok (.invokevirtual 401, 3) := by decide +kernel
theorem d_M_parts_269 : decode b_M_parts 269 = .ok (.goto 104, 3) := by decide +kernel
theorem d_M_parts_272 : decode b_M_parts 272 = .ok (.iload 9, 2) := by decide +kernel
theorem d_M_parts_274 : decode b_M_parts 274 = .ok (.ifCond .le 17, 3) := by decide +kernel
theorem d_M_parts_277 : decode b_M_parts 277 = .ok (.lload 4, 2) := by decide +kernel
theorem d_M_parts_279 : decode b_M_parts 279 = .ok (.ldc2_w 156, 3) := by decide +kernel
theorem d_M_parts_282 : decode b_M_parts 282 = .ok (.lcmp, 1) := by decide +kernel
theorem d_M_parts_283 : decode b_M_parts 283 = .ok (.ifCond .le 8, 3) := by decide +kernel
theorem d_M_parts_286 : decode b_M_parts 286 = .ok (.aload_n 0, 1) := by decide +kernel
theorem d_M_parts_287 : decode b_M_parts 287 = .ok (.iconst 3, 1) := by decide +kernel
theorem d_M_parts_288 : decode b_M_parts 288 = .ok (.invokevirtual 58, 3) := by decide +kernel
theorem d_M_parts_291 : decode b_M_parts 291 = .ok (.lconst 0, 1) := by decide +kernel
theorem d_M_parts_292 : decode b_M_parts 292 = .ok (.lstore 10, 2) := by decide +kernel
theorem d_M_parts_294 : decode b_M_parts 294 = .ok (.lload 10, 2) := by decide +kernel
theorem d_M_parts_296 : decode b_M_parts 296 = .ok (.lload 4, 2) := by decide +kernel
theorem d_M_parts_298 : decode b_M_parts 298 = .ok (.lcmp, 1) := by decide +kernel
theorem d_M_parts_299 : decode b_M_parts 299 = .ok (.ifCond .ge 33, 3) := by decide +kernel
theorem d_M_parts_302 : decode b_M_parts 302 = .ok (.iload 9, 2) := by decide +kernel
theorem d_M_parts_304 : decode b_M_parts 304 = .ok (.ifCond .le 28, 3) := by decide +kernel
theorem d_M_parts_307 : decode b_M_parts 307 = .ok (.aload_n 0, 1) := by decide +kernel
theorem d_M_parts_308 : decode b_M_parts 308 = .ok (.getfield 62, 3) := by decide +kernel
theorem d_M_parts_311 : decode b_M_parts 311 = .ok (.ifCond .ne 21, 3) := by decide +kernel
theorem d_M_parts_314 : decode b_M_parts 314 = .ok (.aload_n 0, 1) := by decide +kernel
theorem d_M_parts_315 : decode b_M_parts 315 = .ok (.iconst 0, 1) := by decide +kernel
theorem d_M_parts_316 : decode b_M_parts 316 = .ok (.lconst 0, 1) := by decide +kernel
theorem d_M_parts_317 : decode b_M_parts 317 = .ok (.iload 9, 2) := by decide +kernel
theorem d_M_parts_319 : decode b_M_parts 319 = .ok (.i2l, 1) := by decide +kernel
theorem d_M_parts_320 : decode b_M_parts 320 = .ok (.invokevirtual 401, 3) := by decide +kernel
theorem d_M_parts_323 : decode b_M_parts 323 = .ok (.lload 10, 2) := by decide +kernel
theorem d_M_parts_325 : decode b_M_parts 325 = .ok (.lconst 1, 1) := by decide +kernel
theorem d_M_parts_326 : decode b_M_parts 326 = .ok (.ladd, 1) := by decide +kernel
theorem d_M_parts_327 : decode b_M_parts 327 = .ok (.lstore 10, 2) := by decide +kernel
theorem d_M_parts_329 : decode b_M_parts 329 = .ok (.goto (-35), 3) := by decide +kernel
theorem d_M_parts_332 : decode b_M_parts 332 = .ok (.goto 41, 3) := by decide +kernel
theorem d_M_parts_335 : decode b_M_parts 335 = .ok (.aload_n 0, 1) := by decide +kernel
theorem d_M_parts_336 : decode b_M_parts 336 = .ok (.iconst 0, 1) := by decide +kernel
theorem d_M_parts_337 : decode b_M_parts 337 = .ok (.lconst 0, 1) := by decide +kernel
theorem d_M_parts_338 : decode b_M_parts 338 = .ok (.lload 4, 2) := by decide +kernel
theorem d_M_parts_340 : decode b_M_parts 340 = .ok (.lconst 1, 1) := by decide +kernel
theorem d_M_parts_341 : decode b_M_parts 341 = .ok (.lsub, 1) := by decide +kernel
theorem d_M_parts_342 : decode b_M_parts 342 = .ok (.invokevirtual 401, 3) := by decide +kernel
theorem d_M_parts_345 : decode b_M_parts 345 = .ok (.aload_n 0, 1) := by decide +kernel
theorem d_M_parts_346 : decode b_M_parts 346 = .ok (.iconst 1, 1) := by decide +kernel
theorem d_M_parts_347 : decode b_M_parts 347 = .ok (.lconst 0, 1) := by decide +kernel
theorem d_M_parts_348 : decode b_M_parts 348 = .ok (.aload_n 0, 1) := by decide +kernel
theorem d_M_parts_349 : decode b_M_parts 349 = .ok (.getfield 40, 3) := by decide +kernel
theorem d_M_parts_352 : decode b_M_parts 352 = .ok (.iconst 1, 1) := by decide +kernel
theorem d_M_parts_353 : decode b_M_parts 353 = .ok (.iaload, 1) := by decide +kernel
theorem d_M_parts_354 : decode b_M_parts 354 = .ok (.i2l, 1) := by decide +kernel
theorem d_M_parts_355 : decode b_M_parts 355 = .ok (.invokevirtual 401, 3) := by decide +kernel
theorem d_M_parts_358 : decode b_M_parts 358 = .ok (.aload_n 0, 1) := by decide +kernel
theorem d_M_parts_359 : decode b_M_parts 359 = .ok (.iconst 0, 1) := by decide +kernel
theorem d_M_parts_360 : decode b_M_parts 360 = .ok (.lload 4, 2) := by decide +kernel
theorem d_M_parts_362 : decode b_M_parts 362 = .ok (.lconst 1, 1) := by decide +kernel
theorem d_M_parts_363 : decode b_M_parts 363 = .ok (.lsub, 1) := by decide +kernel
theorem d_M_parts_364 : decode b_M_parts 364 = .ok (.lload 6, 2) := by decide +kernel
theorem d_M_parts_366 : decode b_M_parts 366 = .ok (.ladd, 1) := by decide +kernel
theorem d_M_parts_367 : decode b_M_parts 367 = .ok (.iload 9, 2) := by decide +kernel
theorem d_M_parts_369 : decode b_M_parts 369 = .ok (.i2l, 1) := by decide +kernel
theorem d_M_parts_370 : decode b_M_parts 370 = .ok (.invokevirtual 401, 3) := by decide +kernel
theorem d_M_parts_373 : decode b_M_parts 373 = .ok (.return_, 1) := by decide +kernel
theorem p_M_parts_b373 (d : Nat)   (h : gk_H) : gk_P gw_V (d + 5) y_M_parts b_M_parts 12 none [] (f_M_parts_b373   h) 373 [] [] h := by
  unfold f_M_parts_b373
  exact gk_vret (pc := 373) rfl d_M_parts_373 rfl
theorem p_M_parts_b335 (d : Nat)  (v0 : Option Nat) (v4 : Int64) (v6 : Int64) (v9 : Int32) (h : gk_H) : gk_P gw_V (d + 5) y_M_parts b_M_parts 12 none [] (f_M_parts_b335  v0 v4 v6 v9 h) 335 [(0, va_rf v0), (4, .long v4), (6, .long v6), (9, .int v9)] [] h := by
  unfold f_M_parts_b335
  refine gk_aload_n (pc := 335) 0 d_M_parts_335 rfl ?_
  refine gk_iconst (pc := 336) (0 : Int32) d_M_parts_336 rfl ?_
  refine gk_lconst (pc := 337) (0 : Int64) d_M_parts_337 rfl ?_
  refine gk_lload (pc := 338) 1 d_M_parts_338 rfl ?_
  refine gk_lconst (pc := 340) (1 : Int64) d_M_parts_340 rfl ?_
  refine gk_lsub (pc := 341) d_M_parts_341 ?_
  refine gk_callV (pc := 342) (d := (d + 4)) (w' := gv_V) (as := [.int (0 : Int32), .long (0 : Int64), .long (v4 - (1 : Int64))]) (n := 3) 7 d_M_parts_342 rfl rfl rfl rfl (Nat.le_of_ble_eq_true rfl) tw_2084 tw_2086 tw_72 tw_99 cw_M_addPart hy_M_addPart (Nat.le_of_ble_eq_true rfl) (p_M_addPart (d + 2) v0 (0 : Int32) (0 : Int64) (v4 - (1 : Int64)) h) fun _ h1 => ?_
  refine gk_aload_n (pc := 345) 0 d_M_parts_345 rfl ?_
  refine gk_iconst (pc := 346) (1 : Int32) d_M_parts_346 rfl ?_
  refine gk_lconst (pc := 347) (0 : Int64) d_M_parts_347 rfl ?_
  refine gk_aload_n (pc := 348) 0 d_M_parts_348 rfl ?_
  refine gk_getR (pc := 349) 7 14 d_M_parts_349 rfl (Nat.le_of_ble_eq_true rfl) tw_1659 fun x1 => ?_
  refine gk_iconst (pc := 352) (1 : Int32) d_M_parts_352 rfl ?_
  refine gk_iald (pc := 353) d_M_parts_353 fun x2 => ?_
  refine gk_i2l (pc := 354) d_M_parts_354 ?_
  refine gk_callV (pc := 355) (d := (d + 4)) (w' := gv_V) (as := [.int (1 : Int32), .long (0 : Int64), .long (Int32.toInt64 x2)]) (n := 3) 7 d_M_parts_355 rfl rfl rfl rfl (Nat.le_of_ble_eq_true rfl) tw_2084 tw_2086 tw_72 tw_99 cw_M_addPart hy_M_addPart (Nat.le_of_ble_eq_true rfl) (p_M_addPart (d + 2) v0 (1 : Int32) (0 : Int64) (Int32.toInt64 x2) h1) fun _ h2 => ?_
  refine gk_aload_n (pc := 358) 0 d_M_parts_358 rfl ?_
  refine gk_iconst (pc := 359) (0 : Int32) d_M_parts_359 rfl ?_
  refine gk_lload (pc := 360) 1 d_M_parts_360 rfl ?_
  refine gk_lconst (pc := 362) (1 : Int64) d_M_parts_362 rfl ?_
  refine gk_lsub (pc := 363) d_M_parts_363 ?_
  refine gk_lload (pc := 364) 2 d_M_parts_364 rfl ?_
  refine gk_ladd (pc := 366) d_M_parts_366 ?_
  refine gk_iload (pc := 367) 3 d_M_parts_367 rfl ?_
  refine gk_i2l (pc := 369) d_M_parts_369 ?_
  refine gk_callV (pc := 370) (d := (d + 4)) (w' := gv_V) (as := [.int (0 : Int32), .long ((v4 - (1 : Int64)) + v6), .long (Int32.toInt64 v9)]) (n := 3) 7 d_M_parts_370 rfl rfl rfl rfl (Nat.le_of_ble_eq_true rfl) tw_2084 tw_2086 tw_72 tw_99 cw_M_addPart hy_M_addPart (Nat.le_of_ble_eq_true rfl) (p_M_addPart (d + 2) v0 (0 : Int32) ((v4 - (1 : Int64)) + v6) (Int32.toInt64 v9) h2) fun _ h3 => ?_
  refine gk_weak [] (L' := []) rfl ?_
  exact p_M_parts_b373 d h3
theorem p_M_parts_b244 (d : Nat)  (v9 : Int32) (s0 : Option Nat) (s1 : Int32) (s2 : Int64) (h : gk_H) : gk_P gw_V (d + 5) y_M_parts b_M_parts 12 none [] (f_M_parts_b244  v9 s0 s1 s2 h) 244 [(9, .int v9)] [.long s2, .int s1, va_rf s0] h := by
  unfold f_M_parts_b244
  refine gk_iload (pc := 244) 0 d_M_parts_244 rfl ?_
  refine gk_i2l (pc := 246) d_M_parts_246 ?_
  refine gk_callV (pc := 247) (d := (d + 4)) (w' := gv_V) (as := [.int s1, .long s2, .long (Int32.toInt64 v9)]) (n := 3) 7 d_M_parts_247 rfl rfl rfl rfl (Nat.le_of_ble_eq_true rfl) tw_2084 tw_2086 tw_72 tw_99 cw_M_addPart hy_M_addPart (Nat.le_of_ble_eq_true rfl) (p_M_addPart (d + 2) s0 s1 s2 (Int32.toInt64 v9) h) fun _ h1 => ?_
  refine gk_goto (pc := 250) 373 d_M_parts_250 rfl ?_
  refine gk_weak [] (L' := []) rfl ?_
  exact p_M_parts_b373 d h1
theorem p_M_parts_b332 (d : Nat)   (h : gk_H) : gk_P gw_V (d + 5) y_M_parts b_M_parts 12 none [] (f_M_parts_b332   h) 332 [] [] h := by
  unfold f_M_parts_b332
  refine gk_goto (pc := 332) 373 d_M_parts_332 rfl ?_
  exact p_M_parts_b373 d h
theorem p_M_parts_b294 (d : Nat)  : ∀ (fu : Nat) (v0 : Option Nat) (v4 : Int64) (v9 : Int32) (v10 : Int64) (h : gk_H), gk_P gw_V (d + 5) y_M_parts b_M_parts 12 none [] (f_M_parts_b294  fu v0 v4 v9 v10 h) 294 [(0, va_rf v0), (4, .long v4), (9, .int v9), (10, .long v10)] [] h := by
  intro fu
  induction fu with
  | zero => intros; exact gk_none
  | succ fu q294 =>
    intro v0 v4 v9 v10 h
    rw [f_M_parts_b294]
    refine gk_lload (pc := 294) 3 d_M_parts_294 rfl ?_
    refine gk_lload (pc := 296) 1 d_M_parts_296 rfl ?_
    refine gk_lcmp (pc := 298) d_M_parts_298 ?_
    refine gk_if_ge (pc := 299) 332 d_M_parts_299 rfl (fun _ => ?_) (fun _ => ?_)
    · refine gk_weak [] (L' := []) rfl ?_
      exact p_M_parts_b332 d h
    · refine gk_iload (pc := 302) 2 d_M_parts_302 rfl ?_
      refine gk_if_le (pc := 304) 332 d_M_parts_304 rfl (fun _ => ?_) (fun _ => ?_)
      · refine gk_weak [] (L' := []) rfl ?_
        exact p_M_parts_b332 d h
      · refine gk_aload_n (pc := 307) 0 d_M_parts_307 rfl ?_
        refine gk_getI (pc := 308) 7 11 d_M_parts_308 rfl (Nat.le_of_ble_eq_true rfl) tw_1656 fun x1 => ?_
        refine gk_if_ne (pc := 311) 332 d_M_parts_311 rfl (fun _ => ?_) (fun _ => ?_)
        · refine gk_aload_n (pc := 314) 0 d_M_parts_314 rfl ?_
          refine gk_iconst (pc := 315) (0 : Int32) d_M_parts_315 rfl ?_
          refine gk_lconst (pc := 316) (0 : Int64) d_M_parts_316 rfl ?_
          refine gk_iload (pc := 317) 2 d_M_parts_317 rfl ?_
          refine gk_i2l (pc := 319) d_M_parts_319 ?_
          refine gk_callV (pc := 320) (d := (d + 4)) (w' := gv_V) (as := [.int (0 : Int32), .long (0 : Int64), .long (Int32.toInt64 v9)]) (n := 3) 7 d_M_parts_320 rfl rfl rfl rfl (Nat.le_of_ble_eq_true rfl) tw_2084 tw_2086 tw_72 tw_99 cw_M_addPart hy_M_addPart (Nat.le_of_ble_eq_true rfl) (p_M_addPart (d + 2) v0 (0 : Int32) (0 : Int64) (Int32.toInt64 v9) h) fun _ h1 => ?_
          refine gk_lload (pc := 323) 3 d_M_parts_323 rfl ?_
          refine gk_lconst (pc := 325) (1 : Int64) d_M_parts_325 rfl ?_
          refine gk_ladd (pc := 326) d_M_parts_326 ?_
          refine gk_topJ (pc := 327) fun x2 => ?_
          refine gk_lstore (pc := 327) (L' := [(10, .long x2), (0, va_rf v0), (4, .long v4), (9, .int v9)]) d_M_parts_327 (Nat.le_of_ble_eq_true rfl) rfl ?_
          refine gk_goto (pc := 329) 294 d_M_parts_329 rfl ?_
          refine gk_weak [1, 2, 3, 0] (L' := [(0, va_rf v0), (4, .long v4), (9, .int v9), (10, .long x2)]) rfl ?_
          exact q294 v0 v4 v9 x2 h1
        · refine gk_weak [] (L' := []) rfl ?_
          exact p_M_parts_b332 d h
theorem p_M_parts_b291 (d : Nat)  (v0 : Option Nat) (v4 : Int64) (v9 : Int32) (h : gk_H) : gk_P gw_V (d + 5) y_M_parts b_M_parts 12 none [] (f_M_parts_b291  v0 v4 v9 h) 291 [(0, va_rf v0), (4, .long v4), (9, .int v9)] [] h := by
  unfold f_M_parts_b291
  refine gk_lconst (pc := 291) (0 : Int64) d_M_parts_291 rfl ?_
  refine gk_lstore (pc := 292) (L' := [(10, .long (0 : Int64)), (0, va_rf v0), (4, .long v4), (9, .int v9)]) d_M_parts_292 (Nat.le_of_ble_eq_true rfl) rfl ?_
  refine gk_weak [1, 2, 3, 0] (L' := [(0, va_rf v0), (4, .long v4), (9, .int v9), (10, .long (0 : Int64))]) rfl ?_
  exact p_M_parts_b294 d gk_F v0 v4 v9 (0 : Int64) h
theorem p_M_parts_b135 (d : Nat)  (v0 : Option Nat) (v1 : Int32) (v4 : Int64) (v6 : Int64) (h : gk_H) : gk_P gw_V (d + 5) y_M_parts b_M_parts 12 none [] (f_M_parts_b135  v0 v1 v4 v6 h) 135 [(0, va_rf v0), (1, .int v1), (4, .long v4), (6, .long v6)] [] h := by
  unfold f_M_parts_b135
  refine gk_aload_n (pc := 135) 0 d_M_parts_135 rfl ?_
  refine gk_getI (pc := 136) 7 11 d_M_parts_136 rfl (Nat.le_of_ble_eq_true rfl) tw_1656 fun x1 => ?_
  refine gk_if_le (pc := 139) 143 d_M_parts_139 rfl (fun _ => ?_) (fun _ => ?_)
  · refine gk_aload_n (pc := 143) 0 d_M_parts_143 rfl ?_
    refine gk_bipush (pc := 144) (16 : Int32) d_M_parts_144 rfl ?_
    refine gk_iconst (pc := 146) (2 : Int32) d_M_parts_146 rfl ?_
    refine gk_dconst0 (pc := 147) d_M_parts_147 ?_
    refine gk_callV (pc := 148) (d := (d + 4)) (w' := gv_V) (as := [.int (16 : Int32), .int (2 : Int32), .double (0x0000000000000000)]) (n := 3) 7 d_M_parts_148 rfl rfl rfl rfl (Nat.le_of_ble_eq_true rfl) tw_1733 tw_1735 tw_15 tw_99 cw_M_setSingle hy_M_setSingle (Nat.le_of_ble_eq_true rfl) (p_M_setSingle (d + 4) v0 (16 : Int32) (2 : Int32) (0x0000000000000000) h) fun _ h1 => ?_
    refine gk_aload_n (pc := 151) 0 d_M_parts_151 rfl ?_
    refine gk_getR (pc := 152) 7 14 d_M_parts_152 rfl (Nat.le_of_ble_eq_true rfl) tw_1659 fun x2 => ?_
    refine gk_iconst (pc := 155) (0 : Int32) d_M_parts_155 rfl ?_
    refine gk_iald (pc := 156) d_M_parts_156 fun x3 => ?_
    refine gk_istore (pc := 157) (L' := [(9, .int x3), (0, va_rf v0), (1, .int v1), (4, .long v4), (6, .long v6)]) d_M_parts_157 (Nat.le_of_ble_eq_true rfl) rfl ?_
    refine gk_iload_n (pc := 159) 2 d_M_parts_159 rfl ?_
    refine gk_ite (fun z160_0 => ?_) (fun z160_0 => ?_)
    · refine gk_tsw_in (pc := 160) (57 : Int32) 212 d_M_parts_160 z160_0 (by decide) (by decide) rfl rfl ?_
      refine gk_aload_n (pc := 212) 1 d_M_parts_212 rfl ?_
      refine gk_iconst (pc := 213) (0 : Int32) d_M_parts_213 rfl ?_
      refine gk_lconst (pc := 214) (0 : Int64) d_M_parts_214 rfl ?_
      refine gk_lload (pc := 215) 3 d_M_parts_215 rfl ?_
      refine gk_callV (pc := 217) (d := (d + 4)) (w' := gv_V) (as := [.int (0 : Int32), .long (0 : Int64), .long v4]) (n := 3) 7 d_M_parts_217 rfl rfl rfl rfl (Nat.le_of_ble_eq_true rfl) tw_2084 tw_2086 tw_72 tw_99 cw_M_addPart hy_M_addPart (Nat.le_of_ble_eq_true rfl) (p_M_addPart (d + 2) v0 (0 : Int32) (0 : Int64) v4 h1) fun _ h2 => ?_
      refine gk_goto (pc := 220) 373 d_M_parts_220 rfl ?_
      refine gk_weak [] (L' := []) rfl ?_
      exact p_M_parts_b373 d h2
    ·
      refine gk_ite (fun z160_1 => ?_) (fun z160_1 => ?_)
      · refine gk_tsw_in (pc := 160) (58 : Int32) 223 d_M_parts_160 z160_1 (by decide) (by decide) rfl rfl ?_
        refine gk_aload_n (pc := 223) 1 d_M_parts_223 rfl ?_
        refine gk_iconst (pc := 224) (0 : Int32) d_M_parts_224 rfl ?_
        refine gk_lload (pc := 225) 3 d_M_parts_225 rfl ?_
        refine gk_iload (pc := 227) 0 d_M_parts_227 rfl ?_
        refine gk_i2l (pc := 229) d_M_parts_229 ?_
        refine gk_lcmp (pc := 230) d_M_parts_230 ?_
        refine gk_if_ge (pc := 231) 243 d_M_parts_231 rfl (fun _ => ?_) (fun _ => ?_)
        · refine gk_lconst (pc := 243) (0 : Int64) d_M_parts_243 rfl ?_
          refine gk_weak [0] (L' := [(9, .int x3)]) rfl ?_
          exact p_M_parts_b244 d x3 v0 (0 : Int32) (0 : Int64) h1
        · refine gk_iload (pc := 234) 0 d_M_parts_234 rfl ?_
          refine gk_i2l (pc := 236) d_M_parts_236 ?_
          refine gk_lload (pc := 237) 3 d_M_parts_237 rfl ?_
          refine gk_lsub (pc := 239) d_M_parts_239 ?_
          refine gk_goto (pc := 240) 244 d_M_parts_240 rfl ?_
          refine gk_weak [0] (L' := [(9, .int x3)]) rfl ?_
          exact p_M_parts_b244 d x3 v0 (0 : Int32) ((Int32.toInt64 x3) - v4) h1
      ·
        refine gk_ite (fun z160_2 => ?_) (fun z160_2 => ?_)
        · refine gk_tsw_in (pc := 160) (59 : Int32) 253 d_M_parts_160 z160_2 (by decide) (by decide) rfl rfl ?_
          refine gk_aload_n (pc := 253) 1 d_M_parts_253 rfl ?_
          refine gk_iconst (pc := 254) (0 : Int32) d_M_parts_254 rfl ?_
          refine gk_lload (pc := 255) 3 d_M_parts_255 rfl ?_
          refine gk_lconst (pc := 257) (1 : Int64) d_M_parts_257 rfl ?_
          refine gk_lsub (pc := 258) d_M_parts_258 ?_
          refine gk_lload (pc := 259) 3 d_M_parts_259 rfl ?_
          refine gk_lconst (pc := 261) (1 : Int64) d_M_parts_261 rfl ?_
          refine gk_lsub (pc := 262) d_M_parts_262 ?_
          refine gk_lload (pc := 263) 4 d_M_parts_263 rfl ?_
          refine gk_ladd (pc := 265) d_M_parts_265 ?_
          refine gk_callV (pc := 266) (d := (d + 4)) (w' := gv_V) (as := [.int (0 : Int32), .long (v4 - (1 : Int64)), .long ((v4 - (1 : Int64)) + v6)]) (n := 3) 7 d_M_parts_266 rfl rfl rfl rfl (Nat.le_of_ble_eq_true rfl) tw_2084 tw_2086 tw_72 tw_99 cw_M_addPart hy_M_addPart (Nat.le_of_ble_eq_true rfl) (p_M_addPart (d + 2) v0 (0 : Int32) (v4 - (1 : Int64)) ((v4 - (1 : Int64)) + v6) h1) fun _ h3 => ?_
          refine gk_goto (pc := 269) 373 d_M_parts_269 rfl ?_
          refine gk_weak [] (L' := []) rfl ?_
          exact p_M_parts_b373 d h3
        ·
          refine gk_ite (fun z160_3 => ?_) (fun z160_3 => ?_)
          · refine gk_tsw_in (pc := 160) (60 : Int32) 335 d_M_parts_160 z160_3 (by decide) (by decide) rfl rfl ?_
            refine gk_weak [1, 3, 4, 0] (L' := [(0, va_rf v0), (4, .long v4), (6, .long v6), (9, .int x3)]) rfl ?_
            exact p_M_parts_b335 d v0 v4 v6 x3 h1
          ·
            refine gk_ite (fun z160_4 => ?_) (fun z160_4 => ?_)
            · refine gk_tsw_in (pc := 160) (61 : Int32) 335 d_M_parts_160 z160_4 (by decide) (by decide) rfl rfl ?_
              refine gk_weak [1, 3, 4, 0] (L' := [(0, va_rf v0), (4, .long v4), (6, .long v6), (9, .int x3)]) rfl ?_
              exact p_M_parts_b335 d v0 v4 v6 x3 h1
            ·
              refine gk_ite (fun z160_5 => ?_) (fun z160_5 => ?_)
              · refine gk_tsw_in (pc := 160) (62 : Int32) 335 d_M_parts_160 z160_5 (by decide) (by decide) rfl rfl ?_
                refine gk_weak [1, 3, 4, 0] (L' := [(0, va_rf v0), (4, .long v4), (6, .long v6), (9, .int x3)]) rfl ?_
                exact p_M_parts_b335 d v0 v4 v6 x3 h1
              ·
                refine gk_ite (fun z160_6 => ?_) (fun z160_6 => ?_)
                · refine gk_tsw_in (pc := 160) (63 : Int32) 335 d_M_parts_160 z160_6 (by decide) (by decide) rfl rfl ?_
                  refine gk_weak [1, 3, 4, 0] (L' := [(0, va_rf v0), (4, .long v4), (6, .long v6), (9, .int x3)]) rfl ?_
                  exact p_M_parts_b335 d v0 v4 v6 x3 h1
                ·
                  refine gk_ite (fun z160_7 => ?_) (fun z160_7 => ?_)
                  · refine gk_tsw_in (pc := 160) (64 : Int32) 335 d_M_parts_160 z160_7 (by decide) (by decide) rfl rfl ?_
                    refine gk_weak [1, 3, 4, 0] (L' := [(0, va_rf v0), (4, .long v4), (6, .long v6), (9, .int x3)]) rfl ?_
                    exact p_M_parts_b335 d v0 v4 v6 x3 h1
                  ·
                    refine gk_ite (fun z160_8 => ?_) (fun z160_8 => ?_)
                    · refine gk_tsw_in (pc := 160) (65 : Int32) 272 d_M_parts_160 z160_8 (by decide) (by decide) rfl rfl ?_
                      refine gk_iload (pc := 272) 0 d_M_parts_272 rfl ?_
                      refine gk_if_le (pc := 274) 291 d_M_parts_274 rfl (fun _ => ?_) (fun _ => ?_)
                      · refine gk_weak [1, 3, 0] (L' := [(0, va_rf v0), (4, .long v4), (9, .int x3)]) rfl ?_
                        exact p_M_parts_b291 d v0 v4 x3 h1
                      · refine gk_lload (pc := 277) 3 d_M_parts_277 rfl ?_
                        refine gk_ldc2 (pc := 279) tw_1858 d_M_parts_279 ?_
                        refine gk_lcmp (pc := 282) d_M_parts_282 ?_
                        refine gk_if_le (pc := 283) 291 d_M_parts_283 rfl (fun _ => ?_) (fun _ => ?_)
                        · refine gk_weak [1, 3, 0] (L' := [(0, va_rf v0), (4, .long v4), (9, .int x3)]) rfl ?_
                          exact p_M_parts_b291 d v0 v4 x3 h1
                        · refine gk_aload_n (pc := 286) 1 d_M_parts_286 rfl ?_
                          refine gk_iconst (pc := 287) (3 : Int32) d_M_parts_287 rfl ?_
                          refine gk_callV (pc := 288) (d := (d + 4)) (w' := gv_V) (as := [.int (3 : Int32)]) (n := 1) 7 d_M_parts_288 rfl rfl rfl rfl (Nat.le_of_ble_eq_true rfl) tw_1805 tw_1807 tw_21 tw_99 cw_M_fail hy_M_fail (Nat.le_of_ble_eq_true rfl) (p_M_fail (d + 4) v0 (3 : Int32) h1) fun _ h4 => ?_
                          refine gk_weak [1, 3, 0] (L' := [(0, va_rf v0), (4, .long v4), (9, .int x3)]) rfl ?_
                          exact p_M_parts_b291 d v0 v4 x3 h4
                    ·
                      refine gk_tsw_out (pc := 160) 335 d_M_parts_160 (by have e0 := gk_neT z160_0 (by decide : (57 : Int32).toInt = 57); have e1 := gk_neT z160_1 (by decide : (58 : Int32).toInt = 58); have e2 := gk_neT z160_2 (by decide : (59 : Int32).toInt = 59); have e3 := gk_neT z160_3 (by decide : (60 : Int32).toInt = 60); have e4 := gk_neT z160_4 (by decide : (61 : Int32).toInt = 61); have e5 := gk_neT z160_5 (by decide : (62 : Int32).toInt = 62); have e6 := gk_neT z160_6 (by decide : (63 : Int32).toInt = 63); have e7 := gk_neT z160_7 (by decide : (64 : Int32).toInt = 64); have e8 := gk_neT z160_8 (by decide : (65 : Int32).toInt = 65); omega) rfl ?_
                      refine gk_weak [1, 3, 4, 0] (L' := [(0, va_rf v0), (4, .long v4), (6, .long v6), (9, .int x3)]) rfl ?_
                      exact p_M_parts_b335 d v0 v4 v6 x3 h1
  · exact gk_vret (pc := 142) rfl d_M_parts_142 rfl
theorem p_M_parts_b130 (d : Nat)  (v0 : Option Nat) (v1 : Int32) (v4 : Int64) (v6 : Int64) (h : gk_H) : gk_P gw_V (d + 5) y_M_parts b_M_parts 12 none [] (f_M_parts_b130  v0 v1 v4 v6 h) 130 [(0, va_rf v0), (1, .int v1), (4, .long v4), (6, .long v6)] [] h := by
  unfold f_M_parts_b130
  refine gk_aload_n (pc := 130) 0 d_M_parts_130 rfl ?_
  refine gk_iconst (pc := 131) (3 : Int32) d_M_parts_131 rfl ?_
  refine gk_callV (pc := 132) (d := (d + 4)) (w' := gv_V) (as := [.int (3 : Int32)]) (n := 1) 7 d_M_parts_132 rfl rfl rfl rfl (Nat.le_of_ble_eq_true rfl) tw_1805 tw_1807 tw_21 tw_99 cw_M_fail hy_M_fail (Nat.le_of_ble_eq_true rfl) (p_M_fail (d + 4) v0 (3 : Int32) h) fun _ h1 => ?_
  exact p_M_parts_b135 d v0 v1 v4 v6 h1
theorem p_M_parts_b92 (d : Nat)  (v0 : Option Nat) (v1 : Int32) (v4 : Int64) (v6 : Int64) (s0 : Int32) (h : gk_H) : gk_P gw_V (d + 5) y_M_parts b_M_parts 12 none [] (f_M_parts_b92  v0 v1 v4 v6 s0 h) 92 [(0, va_rf v0), (1, .int v1), (4, .long v4), (6, .long v6)] [.int s0] h := by
  unfold f_M_parts_b92
  refine gk_istore (pc := 92) (L' := [(8, .int s0), (0, va_rf v0), (1, .int v1), (4, .long v4), (6, .long v6)]) d_M_parts_92 (Nat.le_of_ble_eq_true rfl) rfl ?_
  refine gk_aload_n (pc := 94) 1 d_M_parts_94 rfl ?_
  refine gk_getI (pc := 95) 7 11 d_M_parts_95 rfl (Nat.le_of_ble_eq_true rfl) tw_1656 fun x1 => ?_
  refine gk_if_ne (pc := 98) 135 d_M_parts_98 rfl (fun _ => ?_) (fun _ => ?_)
  · refine gk_iload (pc := 101) 0 d_M_parts_101 rfl ?_
    refine gk_if_eq (pc := 103) 123 d_M_parts_103 rfl (fun _ => ?_) (fun _ => ?_)
    · refine gk_lload (pc := 123) 3 d_M_parts_123 rfl ?_
      refine gk_lconst (pc := 125) (0 : Int64) d_M_parts_125 rfl ?_
      refine gk_lcmp (pc := 126) d_M_parts_126 ?_
      refine gk_if_ge (pc := 127) 135 d_M_parts_127 rfl (fun _ => ?_) (fun _ => ?_)
      · refine gk_weak [1, 2, 3, 4] (L' := [(0, va_rf v0), (1, .int v1), (4, .long v4), (6, .long v6)]) rfl ?_
        exact p_M_parts_b135 d v0 v1 v4 v6 h
      · refine gk_weak [1, 2, 3, 4] (L' := [(0, va_rf v0), (1, .int v1), (4, .long v4), (6, .long v6)]) rfl ?_
        exact p_M_parts_b130 d v0 v1 v4 v6 h
    · refine gk_lload (pc := 106) 3 d_M_parts_106 rfl ?_
      refine gk_lconst (pc := 108) (1 : Int64) d_M_parts_108 rfl ?_
      refine gk_lcmp (pc := 109) d_M_parts_109 ?_
      refine gk_if_lt (pc := 110) 130 d_M_parts_110 rfl (fun _ => ?_) (fun _ => ?_)
      · refine gk_weak [1, 2, 3, 4] (L' := [(0, va_rf v0), (1, .int v1), (4, .long v4), (6, .long v6)]) rfl ?_
        exact p_M_parts_b130 d v0 v1 v4 v6 h
      · refine gk_lload (pc := 113) 4 d_M_parts_113 rfl ?_
        refine gk_lconst (pc := 115) (0 : Int64) d_M_parts_115 rfl ?_
        refine gk_lcmp (pc := 116) d_M_parts_116 ?_
        refine gk_if_ge (pc := 117) 135 d_M_parts_117 rfl (fun _ => ?_) (fun _ => ?_)
        · refine gk_weak [1, 2, 3, 4] (L' := [(0, va_rf v0), (1, .int v1), (4, .long v4), (6, .long v6)]) rfl ?_
          exact p_M_parts_b135 d v0 v1 v4 v6 h
        · refine gk_goto (pc := 120) 130 d_M_parts_120 rfl ?_
          refine gk_weak [1, 2, 3, 4] (L' := [(0, va_rf v0), (1, .int v1), (4, .long v4), (6, .long v6)]) rfl ?_
          exact p_M_parts_b130 d v0 v1 v4 v6 h
  · refine gk_weak [1, 2, 3, 4] (L' := [(0, va_rf v0), (1, .int v1), (4, .long v4), (6, .long v6)]) rfl ?_
    exact p_M_parts_b135 d v0 v1 v4 v6 h
theorem p_M_parts_b87 (d : Nat)  (v0 : Option Nat) (v1 : Int32) (v4 : Int64) (v6 : Int64) (h : gk_H) : gk_P gw_V (d + 5) y_M_parts b_M_parts 12 none [] (f_M_parts_b87  v0 v1 v4 v6 h) 87 [(0, va_rf v0), (1, .int v1), (4, .long v4), (6, .long v6)] [] h := by
  unfold f_M_parts_b87
  refine gk_iconst (pc := 87) (1 : Int32) d_M_parts_87 rfl ?_
  refine gk_goto (pc := 88) 92 d_M_parts_88 rfl ?_
  exact p_M_parts_b92 d v0 v1 v4 v6 (1 : Int32) h
theorem p_M_parts_b75 (d : Nat)  (v0 : Option Nat) (v1 : Int32) (v4 : Int64) (v6 : Int64) (h : gk_H) : gk_P gw_V (d + 5) y_M_parts b_M_parts 12 none [] (f_M_parts_b75  v0 v1 v4 v6 h) 75 [(0, va_rf v0), (1, .int v1), (4, .long v4), (6, .long v6)] [] h := by
  unfold f_M_parts_b75
  refine gk_iload_n (pc := 75) 1 d_M_parts_75 rfl ?_
  refine gk_bipush (pc := 76) (59 : Int32) d_M_parts_76 rfl ?_
  refine gk_icmp_eq (pc := 78) 87 d_M_parts_78 rfl (fun _ => ?_) (fun _ => ?_)
  · exact p_M_parts_b87 d v0 v1 v4 v6 h
  · refine gk_iload_n (pc := 81) 1 d_M_parts_81 rfl ?_
    refine gk_bipush (pc := 82) (67 : Int32) d_M_parts_82 rfl ?_
    refine gk_icmp_ne (pc := 84) 91 d_M_parts_84 rfl (fun _ => ?_) (fun _ => ?_)
    · exact p_M_parts_b87 d v0 v1 v4 v6 h
    · refine gk_iconst (pc := 91) (0 : Int32) d_M_parts_91 rfl ?_
      exact p_M_parts_b92 d v0 v1 v4 v6 (0 : Int32) h
theorem p_M_parts_b59 (d : Nat)  (v0 : Option Nat) (v1 : Int32) (v2 : Int32) (v4 : Int64) (s0 : Int64) (h : gk_H) : gk_P gw_V (d + 5) y_M_parts b_M_parts 12 none [] (f_M_parts_b59  v0 v1 v2 v4 s0 h) 59 [(0, va_rf v0), (1, .int v1), (2, .int v2), (4, .long v4)] [.long s0] h := by
  unfold f_M_parts_b59
  refine gk_lstore (pc := 59) (L' := [(6, .long s0), (0, va_rf v0), (1, .int v1), (2, .int v2), (4, .long v4)]) d_M_parts_59 (Nat.le_of_ble_eq_true rfl) rfl ?_
  refine gk_iload_n (pc := 61) 2 d_M_parts_61 rfl ?_
  refine gk_bipush (pc := 62) (67 : Int32) d_M_parts_62 rfl ?_
  refine gk_icmp_ne (pc := 64) 75 d_M_parts_64 rfl (fun _ => ?_) (fun _ => ?_)
  · refine gk_aload_n (pc := 67) 1 d_M_parts_67 rfl ?_
    refine gk_iload_n (pc := 68) 3 d_M_parts_68 rfl ?_
    refine gk_iconst (pc := 69) (3 : Int32) d_M_parts_69 rfl ?_
    refine gk_iadd (pc := 70) d_M_parts_70 ?_
    refine gk_iconst (pc := 71) (1 : Int32) d_M_parts_71 rfl ?_
    refine gk_callV (pc := 72) (d := (d + 4)) (w' := gv_V) (as := [.int (v2 + (3 : Int32)), .int (1 : Int32)]) (n := 2) 7 d_M_parts_72 rfl rfl rfl rfl (Nat.le_of_ble_eq_true rfl) tw_1830 tw_1832 tw_25 tw_99 cw_M_wantText hy_M_wantText (Nat.le_of_ble_eq_true rfl) (p_M_wantText (d + 1) v0 (v2 + (3 : Int32)) (1 : Int32) h) fun _ h1 => ?_
    refine gk_weak [1, 2, 4, 0] (L' := [(0, va_rf v0), (1, .int v1), (4, .long v4), (6, .long s0)]) rfl ?_
    exact p_M_parts_b75 d v0 v1 v4 s0 h1
  · refine gk_weak [1, 2, 4, 0] (L' := [(0, va_rf v0), (1, .int v1), (4, .long v4), (6, .long s0)]) rfl ?_
    exact p_M_parts_b75 d v0 v1 v4 s0 h
theorem p_M_parts_b48 (d : Nat)  (v0 : Option Nat) (v1 : Int32) (v2 : Int32) (v4 : Int64) (h : gk_H) : gk_P gw_V (d + 5) y_M_parts b_M_parts 12 none [] (f_M_parts_b48  v0 v1 v2 v4 h) 48 [(0, va_rf v0), (1, .int v1), (2, .int v2), (4, .long v4)] [] h := by
  unfold f_M_parts_b48
  refine gk_aload_n (pc := 48) 0 d_M_parts_48 rfl ?_
  refine gk_iload_n (pc := 49) 2 d_M_parts_49 rfl ?_
  refine gk_iconst (pc := 50) (2 : Int32) d_M_parts_50 rfl ?_
  refine gk_iadd (pc := 51) d_M_parts_51 ?_
  refine gk_callV (pc := 52) (d := (d + 4)) (w' := gv_J) (as := [.int (v2 + (2 : Int32))]) (n := 1) 7 d_M_parts_52 rfl rfl rfl rfl (Nat.le_of_ble_eq_true rfl) tw_1954 tw_1956 tw_45 tw_99 cw_M_wantWhole hy_M_wantWhole (Nat.le_of_ble_eq_true rfl) (p_M_wantWhole d v0 (v2 + (2 : Int32)) h) fun x1 h1 => ?_
  refine gk_goto (pc := 55) 59 d_M_parts_55 rfl ?_
  exact p_M_parts_b59 d v0 v1 v2 v4 x1 h1
theorem p_M_parts_b34 (d : Nat)  (v0 : Option Nat) (v1 : Int32) (v2 : Int32) (s0 : Int64) (h : gk_H) : gk_P gw_V (d + 5) y_M_parts b_M_parts 12 none [] (f_M_parts_b34  v0 v1 v2 s0 h) 34 [(0, va_rf v0), (1, .int v1), (2, .int v2)] [.long s0] h := by
  unfold f_M_parts_b34
  refine gk_lstore (pc := 34) (L' := [(4, .long s0), (0, va_rf v0), (1, .int v1), (2, .int v2)]) d_M_parts_34 (Nat.le_of_ble_eq_true rfl) rfl ?_
  refine gk_iload_n (pc := 36) 2 d_M_parts_36 rfl ?_
  refine gk_bipush (pc := 37) (59 : Int32) d_M_parts_37 rfl ?_
  refine gk_icmp_eq (pc := 39) 48 d_M_parts_39 rfl (fun _ => ?_) (fun _ => ?_)
  · refine gk_weak [1, 2, 3, 0] (L' := [(0, va_rf v0), (1, .int v1), (2, .int v2), (4, .long s0)]) rfl ?_
    exact p_M_parts_b48 d v0 v1 v2 s0 h
  · refine gk_iload_n (pc := 42) 2 d_M_parts_42 rfl ?_
    refine gk_bipush (pc := 43) (67 : Int32) d_M_parts_43 rfl ?_
    refine gk_icmp_ne (pc := 45) 58 d_M_parts_45 rfl (fun _ => ?_) (fun _ => ?_)
    · refine gk_weak [1, 2, 3, 0] (L' := [(0, va_rf v0), (1, .int v1), (2, .int v2), (4, .long s0)]) rfl ?_
      exact p_M_parts_b48 d v0 v1 v2 s0 h
    · refine gk_lconst (pc := 58) (0 : Int64) d_M_parts_58 rfl ?_
      refine gk_weak [1, 2, 3, 0] (L' := [(0, va_rf v0), (1, .int v1), (2, .int v2), (4, .long s0)]) rfl ?_
      exact p_M_parts_b59 d v0 v1 v2 s0 (0 : Int64) h
theorem w_M_parts (d : Nat) (a0 : Option Nat) (a1 : Int32) (a2 : Int32) (a3 : Int32) (h : gk_H) : gk_P gw_V (d + 5) y_M_parts b_M_parts 12 none [] (f_M_parts a0 a1 a2 a3 h) 0 [(0, va_rf a0), (1, .int a1), (2, .int a2), (3, .int a3)] [] h := by
  unfold f_M_parts
  refine gk_iload_n (pc := 0) 1 d_M_parts_0 rfl ?_
  refine gk_bipush (pc := 1) (56 : Int32) d_M_parts_1 rfl ?_
  refine gk_icmp_ne (pc := 3) 18 d_M_parts_3 rfl (fun _ => ?_) (fun _ => ?_)
  · refine gk_aload_n (pc := 6) 0 d_M_parts_6 rfl ?_
    refine gk_aload_n (pc := 7) 0 d_M_parts_7 rfl ?_
    refine gk_getR (pc := 8) 7 14 d_M_parts_8 rfl (Nat.le_of_ble_eq_true rfl) tw_1659 fun x1 => ?_
    refine gk_iconst (pc := 11) (0 : Int32) d_M_parts_11 rfl ?_
    refine gk_iald (pc := 12) d_M_parts_12 fun x2 => ?_
    refine gk_i2d (pc := 13) d_M_parts_13 ?_
    refine gk_callV (pc := 14) (d := (d + 4)) (w' := gv_V) (as := [.double (FP.i2d x2)]) (n := 1) 7 d_M_parts_14 rfl rfl rfl rfl (Nat.le_of_ble_eq_true rfl) tw_1916 tw_1918 tw_38 tw_99 cw_M_answerNumber hy_M_answerNumber (Nat.le_of_ble_eq_true rfl) (p_M_answerNumber (d + 3) a0 (FP.i2d x2) h) fun _ h1 => ?_
    exact gk_vret (pc := 17) rfl d_M_parts_17 rfl
  · refine gk_iload_n (pc := 18) 3 d_M_parts_18 rfl ?_
    refine gk_iconst (pc := 19) (1 : Int32) d_M_parts_19 rfl ?_
    refine gk_icmp_le (pc := 20) 33 d_M_parts_20 rfl (fun _ => ?_) (fun _ => ?_)
    · refine gk_lconst (pc := 33) (1 : Int64) d_M_parts_33 rfl ?_
      refine gk_weak [0, 1, 2] (L' := [(0, va_rf a0), (1, .int a1), (2, .int a2)]) rfl ?_
      exact p_M_parts_b34 d a0 a1 a2 (1 : Int64) h
    · refine gk_aload_n (pc := 23) 0 d_M_parts_23 rfl ?_
      refine gk_iload_n (pc := 24) 2 d_M_parts_24 rfl ?_
      refine gk_iconst (pc := 25) (1 : Int32) d_M_parts_25 rfl ?_
      refine gk_iadd (pc := 26) d_M_parts_26 ?_
      refine gk_callV (pc := 27) (d := (d + 4)) (w' := gv_J) (as := [.int (a2 + (1 : Int32))]) (n := 1) 7 d_M_parts_27 rfl rfl rfl rfl (Nat.le_of_ble_eq_true rfl) tw_1954 tw_1956 tw_45 tw_99 cw_M_wantWhole hy_M_wantWhole (Nat.le_of_ble_eq_true rfl) (p_M_wantWhole d a0 (a2 + (1 : Int32)) h) fun x3 h2 => ?_
      refine gk_goto (pc := 30) 34 d_M_parts_30 rfl ?_
      refine gk_weak [0, 1, 2] (L' := [(0, va_rf a0), (1, .int a1), (2, .int a2)]) rfl ?_
      exact p_M_parts_b34 d a0 a1 a2 x3 h2
theorem p_M_parts (d : Nat) (a0 : Option Nat) (a1 : Int32) (a2 : Int32) (a3 : Int32) (h : gk_H) : ∀ r h1, f_M_parts a0 a1 a2 a3 h = some (r, h1) → gk_M (d + 5) y_M_parts b_M_parts 12 none [va_rf a0, .int a1, .int a2, .int a3] h (.inl (gv_V r)) h1 :=
  fun r h1 e => gk_M_of2 (by decide +kernel) (by simp [lv_args, gk_cat_rf, gk_catI, gk_catJ, gk_catD, gv_V, gv_I, gv_J, gv_D, gv_R]) (by simp [lg_sl, gk_cat_rf, gk_catI, gk_catJ, gk_catD, gv_V, gv_I, gv_J, gv_D, gv_R]) (w_M_parts d a0 a1 a2 a3 h r h1 e)
theorem d_M_texts_0 : decode b_M_texts 0 = .ok (.iload_n 1, 1) := by decide +kernel
theorem d_M_texts_1 : decode b_M_texts 1 = .ok (.bipush 64, 2) := by decide +kernel
theorem d_M_texts_3 : decode b_M_texts 3 = .ok (.if_icmp .ne 34, 3) := by decide +kernel
theorem d_M_texts_6 : decode b_M_texts 6 = .ok (.iconst 0, 1) := by decide +kernel
theorem d_M_texts_7 : decode b_M_texts 7 = .ok (.istore 4, 2) := by decide +kernel
theorem d_M_texts_9 : decode b_M_texts 9 = .ok (.iload 4, 2) := by decide +kernel
theorem d_M_texts_11 : decode b_M_texts 11 = .ok (.iload_n 3, 1) := by decide +kernel
theorem d_M_texts_12 : decode b_M_texts 12 = .ok (.if_icmp .ge 19, 3) := by decide +kernel
theorem d_M_texts_15 : decode b_M_texts 15 = .ok (.aload_n 0, 1) := by decide +kernel
theorem d_M_texts_16 : decode b_M_texts 16 = .ok (.iload_n 2, 1) := by decide +kernel
theorem d_M_texts_17 : decode b_M_texts 17 = .ok (.iload 4, 2) := by decide +kernel
theorem d_M_texts_19 : decode b_M_texts 19 = .ok (.iadd, 1) := by decide +kernel
theorem d_M_texts_20 : decode b_M_texts 20 = .ok (.iload 4, 2) := by decide +kernel
theorem d_M_texts_22 : decode b_M_texts 22 = .ok (.invokevirtual 197, 3) := by decide +kernel
theorem d_M_texts_25 : decode b_M_texts 25 = .ok (.iinc 4 1, 3) := by decide +kernel
theorem d_M_texts_28 : decode b_M_texts 28 = .ok (.goto (-19), 3) := by decide +kernel
theorem d_M_texts_31 : decode b_M_texts 31 = .ok (.aload_n 0, 1) := by decide +kernel
theorem d_M_texts_32 : decode b_M_texts 32 = .ok (.iload_n 3, 1) := by decide +kernel
theorem d_M_texts_33 : decode b_M_texts 33 = .ok (.invokevirtual 200, 3) := by decide +kernel
theorem d_M_texts_36 : decode b_M_texts 36 = .ok (.return_, 1) := by decide +kernel
theorem d_M_texts_37 : decode b_M_texts 37 = .ok (.iload_n 1, 1) := by decide +kernel
theorem d_M_texts_38 : decode b_M_texts 38 = .ok (.bipush 71, 2) := by decide +kernel
theorem d_M_texts_40 : decode b_M_texts 40 = .ok (.if_icmp .ne 63, 3) := by decide +kernel
theorem d_M_texts_43 : decode b_M_texts 43 = .ok (.aload_n 0, 1) := by decide +kernel
theorem d_M_texts_44 : decode b_M_texts 44 = .ok (.iload_n 2, 1) := by decide +kernel
theorem d_M_texts_45 : decode b_M_texts 45 = .ok (.invokevirtual 296, 3) := by decide +kernel
theorem d_M_texts_48 : decode b_M_texts 48 = .ok (.lstore 4, 2) := by decide +kernel
theorem d_M_texts_50 : decode b_M_texts 50 = .ok (.aload_n 0, 1) := by decide +kernel
theorem d_M_texts_51 : decode b_M_texts 51 = .ok (.getfield 62, 3) := by decide +kernel
theorem d_M_texts_54 : decode b_M_texts 54 = .ok (.ifCond .ne 26, 3) := by decide +kernel
theorem d_M_texts_57 : decode b_M_texts 57 = .ok (.lload 4, 2) := by decide +kernel
theorem d_M_texts_59 : decode b_M_texts 59 = .ok (.ldc2_w 383, 3) := by decide +kernel
theorem d_M_texts_62 : decode b_M_texts 62 = .ok (.lcmp, 1) := by decide +kernel
theorem d_M_texts_63 : decode b_M_texts 63 = .ok (.ifCond .lt 12, 3) := by decide +kernel
theorem d_M_texts_66 : decode b_M_texts 66 = .ok (.lload 4, 2) := by decide +kernel
theorem d_M_texts_68 : decode b_M_texts 68 = .ok (.ldc2_w 385, 3) := by decide +kernel
theorem d_M_texts_71 : decode b_M_texts 71 = .ok (.lcmp, 1) := by decide +kernel
theorem d_M_texts_72 : decode b_M_texts 72 = .ok (.ifCond .le 8, 3) := by decide +kernel
theorem d_M_texts_75 : decode b_M_texts 75 = .ok (.aload_n 0, 1) := by decide +kernel
theorem d_M_texts_76 : decode b_M_texts 76 = .ok (.iconst 3, 1) := by decide +kernel
theorem d_M_texts_77 : decode b_M_texts 77 = .ok (.invokevirtual 58, 3) := by decide +kernel
theorem d_M_texts_80 : decode b_M_texts 80 = .ok (.aload_n 0, 1) := by decide +kernel
theorem d_M_texts_81 : decode b_M_texts 81 = .ok (.bipush 16, 2) := by decide +kernel
theorem d_M_texts_83 : decode b_M_texts 83 = .ok (.iconst 2, 1) := by decide +kernel
theorem d_M_texts_84 : decode b_M_texts 84 = .ok (.dconst 0, 1) := by decide +kernel
theorem d_M_texts_85 : decode b_M_texts 85 = .ok (.invokevirtual 76, 3) := by decide +kernel
theorem d_M_texts_88 : decode b_M_texts 88 = .ok (.aload_n 0, 1) := by decide +kernel
theorem d_M_texts_89 : decode b_M_texts 89 = .ok (.getfield 62, 3) := by decide +kernel
theorem d_M_texts_92 : decode b_M_texts 92 = .ok (.ifCond .ne 10, 3) := by decide +kernel
theorem d_M_texts_95 : decode b_M_texts 95 = .ok (.aload_n 0, 1) := by decide +kernel
theorem d_M_texts_96 : decode b_M_texts 96 = .ok (.lload 4, 2) := by decide +kernel
theorem d_M_texts_98 : decode b_M_texts 98 = .ok (.l2i, 1) := by decide +kernel
theorem d_M_texts_99 : decode b_M_texts 99 = .ok (.invokevirtual 224, 3) := by decide +kernel
theorem d_M_texts_102 : decode b_M_texts 102 = .ok (.return_, 1) := by decide +kernel
theorem d_M_texts_103 : decode b_M_texts 103 = .ok (.aload_n 0, 1) := by decide +kernel
theorem d_M_texts_104 : decode b_M_texts 104 = .ok (.iload_n 2, 1) := by decide +kernel
theorem d_M_texts_105 : decode b_M_texts 105 = .ok (.iconst 0, 1) := by decide +kernel
theorem d_M_texts_106 : decode b_M_texts 106 = .ok (.invokevirtual 197, 3) := by decide +kernel
theorem d_M_texts_109 : decode b_M_texts 109 = .ok (.iload_n 1, 1) := by decide +kernel
theorem d_M_texts_110 : decode b_M_texts 110 = .ok (.bipush 60, 2) := by decide +kernel
theorem d_M_texts_112 : decode b_M_texts 112 = .ok (.if_icmp .lt 15, 3) := by decide +kernel
theorem d_M_texts_115 : decode b_M_texts 115 = .ok (.iload_n 1, 1) := by decide +kernel
theorem d_M_texts_116 : decode b_M_texts 116 = .ok (.bipush 65, 2) := by decide +kernel
theorem d_M_texts_118 : decode b_M_texts 118 = .ok (.if_icmp .eq 9, 3) := by decide +kernel
theorem d_M_texts_121 : decode b_M_texts 121 = .ok (.iload_n 1, 1) := by decide +kernel
theorem d_M_texts_122 : decode b_M_texts 122 = .ok (.bipush 67, 2) := by decide +kernel
theorem d_M_texts_124 : decode b_M_texts 124 = .ok (.if_icmp .ne 13, 3) := by decide +kernel
theorem d_M_texts_127 : decode b_M_texts 127 = .ok (.aload_n 0, 1) := by decide +kernel
theorem d_M_texts_128 : decode b_M_texts 128 = .ok (.iload_n 1, 1) := by decide +kernel
theorem d_M_texts_129 : decode b_M_texts 129 = .ok (.iload_n 2, 1) := by decide +kernel
theorem d_M_texts_130 : decode b_M_texts 130 = .ok (.iload_n 3, 1) := by decide +kernel
theorem d_M_texts_131 : decode b_M_texts 131 = .ok (.invokevirtual 387, 3) := by decide +kernel
theorem d_M_texts_134 : decode b_M_texts 134 = .ok (.goto 60, 3) := by decide +kernel
theorem d_M_texts_137 : decode b_M_texts 137 = .ok (.iload_n 1, 1) := by decide +kernel
theorem d_M_texts_138 : decode b_M_texts 138 = .ok (.bipush 66, 2) := by decide +kernel
theorem d_M_texts_140 : decode b_M_texts 140 = .ok (.if_icmp .ne 12, 3) := by decide +kernel
theorem d_M_texts_143 : decode b_M_texts 143 = .ok (.aload_n 0, 1) := by decide +kernel
theorem d_M_texts_144 : decode b_M_texts 144 = .ok (.iload_n 2, 1) := by decide +kernel
theorem d_M_texts_145 : decode b_M_texts 145 = .ok (.iload_n 3, 1) := by decide +kernel
theorem d_M_texts_146 : decode b_M_texts 146 = .ok (.invokevirtual 390, 3) := by decide +kernel
theorem d_M_texts_149 : decode b_M_texts 149 = .ok (.goto 45, 3) := by decide +kernel
theorem d_M_texts_152 : decode b_M_texts 152 = .ok (.iload_n 1, 1) := by decide +kernel
theorem d_M_texts_153 : decode b_M_texts 153 = .ok (.bipush 68, 2) := by decide +kernel
theorem d_M_texts_155 : decode b_M_texts 155 = .ok (.if_icmp .eq 9, 3) := by decide +kernel
theorem d_M_texts_158 : decode b_M_texts 158 = .ok (.iload_n 1, 1) := by decide +kernel
theorem d_M_texts_159 : decode b_M_texts 159 = .ok (.bipush 69, 2) := by decide +kernel
theorem d_M_texts_161 : decode b_M_texts 161 = .ok (.if_icmp .ne 13, 3) := by decide +kernel
theorem d_M_texts_164 : decode b_M_texts 164 = .ok (.aload_n 0, 1) := by decide +kernel
theorem d_M_texts_165 : decode b_M_texts 165 = .ok (.iload_n 1, 1) := by decide +kernel
theorem d_M_texts_166 : decode b_M_texts 166 = .ok (.iload_n 2, 1) := by decide +kernel
theorem d_M_texts_167 : decode b_M_texts 167 = .ok (.iload_n 3, 1) := by decide +kernel
theorem d_M_texts_168 : decode b_M_texts 168 = .ok (.invokevirtual 393, 3) := by decide +kernel
theorem d_M_texts_171 : decode b_M_texts 171 = .ok (.goto 23, 3) := by decide +kernel
theorem d_M_texts_174 : decode b_M_texts 174 = .ok (.iload_n 1, 1) := by decide +kernel
theorem d_M_texts_175 : decode b_M_texts 175 = .ok (.bipush 69, 2) := by decide +kernel
theorem d_M_texts_177 : decode b_M_texts 177 = .ok (.if_icmp .le 12, 3) := by decide +kernel
theorem d_M_texts_180 : decode b_M_texts 180 = .ok (.aload_n 0, 1) := by decide +kernel
theorem d_M_texts_181 : decode b_M_texts 181 = .ok (.iload_n 1, 1) := by decide +kernel
theorem d_M_texts_182 : decode b_M_texts 182 = .ok (.iload_n 2, 1) := by decide +kernel
theorem d_M_texts_183 : decode b_M_texts 183 = .ok (.invokevirtual 396, 3) := by decide +kernel
theorem d_M_texts_186 : decode b_M_texts 186 = .ok (.goto 8, 3) := by decide +kernel
theorem d_M_texts_189 : decode b_M_texts 189 = .ok (.aload_n 0, 1) := by decide +kernel
theorem d_M_texts_190 : decode b_M_texts 190 = .ok (.iload_n 1, 1) := by decide +kernel
theorem d_M_texts_191 : decode b_M_texts 191 = .ok (.invokevirtual 399, 3) := by decide +kernel
theorem d_M_texts_194 : decode b_M_texts 194 = .ok (.return_, 1) := by decide +kernel
theorem p_M_texts_b194 (d : Nat)   (h : gk_H) : gk_P gw_V (d + 6) y_M_texts b_M_texts 6 none [] (f_M_texts_b194   h) 194 [] [] h := by
  unfold f_M_texts_b194
  exact gk_vret (pc := 194) rfl d_M_texts_194 rfl
theorem p_M_texts_b127 (d : Nat)  (v0 : Option Nat) (v1 : Int32) (v2 : Int32) (v3 : Int32) (h : gk_H) : gk_P gw_V (d + 6) y_M_texts b_M_texts 6 none [] (f_M_texts_b127  v0 v1 v2 v3 h) 127 [(0, va_rf v0), (1, .int v1), (2, .int v2), (3, .int v3)] [] h := by
  unfold f_M_texts_b127
  refine gk_aload_n (pc := 127) 0 d_M_texts_127 rfl ?_
  refine gk_iload_n (pc := 128) 1 d_M_texts_128 rfl ?_
  refine gk_iload_n (pc := 129) 2 d_M_texts_129 rfl ?_
  refine gk_iload_n (pc := 130) 3 d_M_texts_130 rfl ?_
  refine gk_callV (pc := 131) (d := (d + 5)) (w' := gv_V) (as := [.int v1, .int v2, .int v3]) (n := 3) 7 d_M_texts_131 rfl rfl rfl rfl (Nat.le_of_ble_eq_true rfl) tw_2080 tw_2082 tw_71 tw_99 cw_M_parts hy_M_parts (Nat.le_of_ble_eq_true rfl) (p_M_parts d v0 v1 v2 v3 h) fun _ h1 => ?_
  refine gk_goto (pc := 134) 194 d_M_texts_134 rfl ?_
  refine gk_weak [] (L' := []) rfl ?_
  exact p_M_texts_b194 d h1
theorem p_M_texts_b164 (d : Nat)  (v0 : Option Nat) (v1 : Int32) (v2 : Int32) (v3 : Int32) (h : gk_H) : gk_P gw_V (d + 6) y_M_texts b_M_texts 6 none [] (f_M_texts_b164  v0 v1 v2 v3 h) 164 [(0, va_rf v0), (1, .int v1), (2, .int v2), (3, .int v3)] [] h := by
  unfold f_M_texts_b164
  refine gk_aload_n (pc := 164) 0 d_M_texts_164 rfl ?_
  refine gk_iload_n (pc := 165) 1 d_M_texts_165 rfl ?_
  refine gk_iload_n (pc := 166) 2 d_M_texts_166 rfl ?_
  refine gk_iload_n (pc := 167) 3 d_M_texts_167 rfl ?_
  refine gk_callV (pc := 168) (d := (d + 5)) (w' := gv_V) (as := [.int v1, .int v2, .int v3]) (n := 3) 7 d_M_texts_168 rfl rfl rfl rfl (Nat.le_of_ble_eq_true rfl) tw_2096 tw_2098 tw_75 tw_99 cw_M_search hy_M_search (Nat.le_of_ble_eq_true rfl) (p_M_search d v0 v1 v2 v3 h) fun _ h1 => ?_
  refine gk_goto (pc := 171) 194 d_M_texts_171 rfl ?_
  refine gk_weak [] (L' := []) rfl ?_
  exact p_M_texts_b194 d h1
theorem p_M_texts_b102 (d : Nat)   (h : gk_H) : gk_P gw_V (d + 6) y_M_texts b_M_texts 6 none [] (f_M_texts_b102   h) 102 [] [] h := by
  unfold f_M_texts_b102
  exact gk_vret (pc := 102) rfl d_M_texts_102 rfl
theorem p_M_texts_b80 (d : Nat)  (v0 : Option Nat) (v4 : Int64) (h : gk_H) : gk_P gw_V (d + 6) y_M_texts b_M_texts 6 none [] (f_M_texts_b80  v0 v4 h) 80 [(0, va_rf v0), (4, .long v4)] [] h := by
  unfold f_M_texts_b80
  refine gk_aload_n (pc := 80) 0 d_M_texts_80 rfl ?_
  refine gk_bipush (pc := 81) (16 : Int32) d_M_texts_81 rfl ?_
  refine gk_iconst (pc := 83) (2 : Int32) d_M_texts_83 rfl ?_
  refine gk_dconst0 (pc := 84) d_M_texts_84 ?_
  refine gk_callV (pc := 85) (d := (d + 5)) (w' := gv_V) (as := [.int (16 : Int32), .int (2 : Int32), .double (0x0000000000000000)]) (n := 3) 7 d_M_texts_85 rfl rfl rfl rfl (Nat.le_of_ble_eq_true rfl) tw_1733 tw_1735 tw_15 tw_99 cw_M_setSingle hy_M_setSingle (Nat.le_of_ble_eq_true rfl) (p_M_setSingle (d + 5) v0 (16 : Int32) (2 : Int32) (0x0000000000000000) h) fun _ h1 => ?_
  refine gk_aload_n (pc := 88) 0 d_M_texts_88 rfl ?_
  refine gk_getI (pc := 89) 7 11 d_M_texts_89 rfl (Nat.le_of_ble_eq_true rfl) tw_1656 fun x1 => ?_
  refine gk_if_ne (pc := 92) 102 d_M_texts_92 rfl (fun _ => ?_) (fun _ => ?_)
  · refine gk_aload_n (pc := 95) 0 d_M_texts_95 rfl ?_
    refine gk_lload (pc := 96) 1 d_M_texts_96 rfl ?_
    refine gk_l2i (pc := 98) d_M_texts_98 ?_
    refine gk_callV (pc := 99) (d := (d + 5)) (w' := gv_V) (as := [.int (Int64.toInt32 v4)]) (n := 1) 7 d_M_texts_99 rfl rfl rfl rfl (Nat.le_of_ble_eq_true rfl) tw_1863 tw_1865 tw_30 tw_99 cw_M_add hy_M_add (Nat.le_of_ble_eq_true rfl) (p_M_add (d + 4) v0 (Int64.toInt32 v4) h1) fun _ h2 => ?_
    refine gk_weak [] (L' := []) rfl ?_
    exact p_M_texts_b102 d h2
  · refine gk_weak [] (L' := []) rfl ?_
    exact p_M_texts_b102 d h1
theorem p_M_texts_b75 (d : Nat)  (v0 : Option Nat) (v4 : Int64) (h : gk_H) : gk_P gw_V (d + 6) y_M_texts b_M_texts 6 none [] (f_M_texts_b75  v0 v4 h) 75 [(0, va_rf v0), (4, .long v4)] [] h := by
  unfold f_M_texts_b75
  refine gk_aload_n (pc := 75) 0 d_M_texts_75 rfl ?_
  refine gk_iconst (pc := 76) (3 : Int32) d_M_texts_76 rfl ?_
  refine gk_callV (pc := 77) (d := (d + 5)) (w' := gv_V) (as := [.int (3 : Int32)]) (n := 1) 7 d_M_texts_77 rfl rfl rfl rfl (Nat.le_of_ble_eq_true rfl) tw_1805 tw_1807 tw_21 tw_99 cw_M_fail hy_M_fail (Nat.le_of_ble_eq_true rfl) (p_M_fail (d + 5) v0 (3 : Int32) h) fun _ h1 => ?_
  exact p_M_texts_b80 d v0 v4 h1
theorem p_M_texts_b9 (d : Nat)  : ∀ (fu : Nat) (v0 : Option Nat) (v2 : Int32) (v3 : Int32) (v4 : Int32) (h : gk_H), gk_P gw_V (d + 6) y_M_texts b_M_texts 6 none [] (f_M_texts_b9  fu v0 v2 v3 v4 h) 9 [(0, va_rf v0), (2, .int v2), (3, .int v3), (4, .int v4)] [] h := by
  intro fu
  induction fu with
  | zero => intros; exact gk_none
  | succ fu q9 =>
    intro v0 v2 v3 v4 h
    rw [f_M_texts_b9]
    refine gk_iload (pc := 9) 3 d_M_texts_9 rfl ?_
    refine gk_iload_n (pc := 11) 2 d_M_texts_11 rfl ?_
    refine gk_icmp_ge (pc := 12) 31 d_M_texts_12 rfl (fun _ => ?_) (fun _ => ?_)
    · refine gk_aload_n (pc := 31) 0 d_M_texts_31 rfl ?_
      refine gk_iload_n (pc := 32) 2 d_M_texts_32 rfl ?_
      refine gk_callV (pc := 33) (d := (d + 5)) (w' := gv_V) (as := [.int v3]) (n := 1) 7 d_M_texts_33 rfl rfl rfl rfl (Nat.le_of_ble_eq_true rfl) tw_1859 tw_1861 tw_29 tw_99 cw_M_join hy_M_join (Nat.le_of_ble_eq_true rfl) (p_M_join (d + 3) v0 v3 h) fun _ h1 => ?_
      exact gk_vret (pc := 36) rfl d_M_texts_36 rfl
    · refine gk_aload_n (pc := 15) 0 d_M_texts_15 rfl ?_
      refine gk_iload_n (pc := 16) 1 d_M_texts_16 rfl ?_
      refine gk_iload (pc := 17) 3 d_M_texts_17 rfl ?_
      refine gk_iadd (pc := 19) d_M_texts_19 ?_
      refine gk_iload (pc := 20) 3 d_M_texts_20 rfl ?_
      refine gk_callV (pc := 22) (d := (d + 5)) (w' := gv_V) (as := [.int (v2 + v4), .int v4]) (n := 2) 7 d_M_texts_22 rfl rfl rfl rfl (Nat.le_of_ble_eq_true rfl) tw_1830 tw_1832 tw_25 tw_99 cw_M_wantText hy_M_wantText (Nat.le_of_ble_eq_true rfl) (p_M_wantText (d + 2) v0 (v2 + v4) v4 h) fun _ h2 => ?_
      refine gk_iincN (pc := 25) 3 (1 : Int32) (L' := fun x1 => [(4, .int x1), (0, va_rf v0), (2, .int v2), (3, .int v3)]) d_M_texts_25 rfl rfl (Nat.le_of_ble_eq_true rfl) (fun _ => rfl) fun x1 => ?_
      refine gk_goto (pc := 28) 9 d_M_texts_28 rfl ?_
      refine gk_weak [1, 2, 3, 0] (L' := [(0, va_rf v0), (2, .int v2), (3, .int v3), (4, .int x1)]) rfl ?_
      exact q9 v0 v2 v3 x1 h2
theorem w_M_texts (d : Nat) (a0 : Option Nat) (a1 : Int32) (a2 : Int32) (a3 : Int32) (h : gk_H) : gk_P gw_V (d + 6) y_M_texts b_M_texts 6 none [] (f_M_texts a0 a1 a2 a3 h) 0 [(0, va_rf a0), (1, .int a1), (2, .int a2), (3, .int a3)] [] h := by
  unfold f_M_texts
  refine gk_iload_n (pc := 0) 1 d_M_texts_0 rfl ?_
  refine gk_bipush (pc := 1) (64 : Int32) d_M_texts_1 rfl ?_
  refine gk_icmp_ne (pc := 3) 37 d_M_texts_3 rfl (fun _ => ?_) (fun _ => ?_)
  · refine gk_iconst (pc := 6) (0 : Int32) d_M_texts_6 rfl ?_
    refine gk_istore (pc := 7) (L' := [(4, .int (0 : Int32)), (0, va_rf a0), (1, .int a1), (2, .int a2), (3, .int a3)]) d_M_texts_7 (Nat.le_of_ble_eq_true rfl) rfl ?_
    refine gk_weak [1, 3, 4, 0] (L' := [(0, va_rf a0), (2, .int a2), (3, .int a3), (4, .int (0 : Int32))]) rfl ?_
    exact p_M_texts_b9 d gk_F a0 a2 a3 (0 : Int32) h
  · refine gk_iload_n (pc := 37) 1 d_M_texts_37 rfl ?_
    refine gk_bipush (pc := 38) (71 : Int32) d_M_texts_38 rfl ?_
    refine gk_icmp_ne (pc := 40) 103 d_M_texts_40 rfl (fun _ => ?_) (fun _ => ?_)
    · refine gk_aload_n (pc := 43) 0 d_M_texts_43 rfl ?_
      refine gk_iload_n (pc := 44) 2 d_M_texts_44 rfl ?_
      refine gk_callV (pc := 45) (d := (d + 5)) (w' := gv_J) (as := [.int a2]) (n := 1) 7 d_M_texts_45 rfl rfl rfl rfl (Nat.le_of_ble_eq_true rfl) tw_1954 tw_1956 tw_45 tw_99 cw_M_wantWhole hy_M_wantWhole (Nat.le_of_ble_eq_true rfl) (p_M_wantWhole (d + 1) a0 a2 h) fun x1 h1 => ?_
      refine gk_lstore (pc := 48) (L' := [(4, .long x1), (0, va_rf a0), (1, .int a1), (2, .int a2), (3, .int a3)]) d_M_texts_48 (Nat.le_of_ble_eq_true rfl) rfl ?_
      refine gk_aload_n (pc := 50) 1 d_M_texts_50 rfl ?_
      refine gk_getI (pc := 51) 7 11 d_M_texts_51 rfl (Nat.le_of_ble_eq_true rfl) tw_1656 fun x2 => ?_
      refine gk_if_ne (pc := 54) 80 d_M_texts_54 rfl (fun _ => ?_) (fun _ => ?_)
      · refine gk_lload (pc := 57) 0 d_M_texts_57 rfl ?_
        refine gk_ldc2 (pc := 59) tw_2078 d_M_texts_59 ?_
        refine gk_lcmp (pc := 62) d_M_texts_62 ?_
        refine gk_if_lt (pc := 63) 75 d_M_texts_63 rfl (fun _ => ?_) (fun _ => ?_)
        · refine gk_weak [1, 0] (L' := [(0, va_rf a0), (4, .long x1)]) rfl ?_
          exact p_M_texts_b75 d a0 x1 h1
        · refine gk_lload (pc := 66) 0 d_M_texts_66 rfl ?_
          refine gk_ldc2 (pc := 68) tw_2079 d_M_texts_68 ?_
          refine gk_lcmp (pc := 71) d_M_texts_71 ?_
          refine gk_if_le (pc := 72) 80 d_M_texts_72 rfl (fun _ => ?_) (fun _ => ?_)
          · refine gk_weak [1, 0] (L' := [(0, va_rf a0), (4, .long x1)]) rfl ?_
            exact p_M_texts_b80 d a0 x1 h1
          · refine gk_weak [1, 0] (L' := [(0, va_rf a0), (4, .long x1)]) rfl ?_
            exact p_M_texts_b75 d a0 x1 h1
      · refine gk_weak [1, 0] (L' := [(0, va_rf a0), (4, .long x1)]) rfl ?_
        exact p_M_texts_b80 d a0 x1 h1
    · refine gk_aload_n (pc := 103) 0 d_M_texts_103 rfl ?_
      refine gk_iload_n (pc := 104) 2 d_M_texts_104 rfl ?_
      refine gk_iconst (pc := 105) (0 : Int32) d_M_texts_105 rfl ?_
      refine gk_callV (pc := 106) (d := (d + 5)) (w' := gv_V) (as := [.int a2, .int (0 : Int32)]) (n := 2) 7 d_M_texts_106 rfl rfl rfl rfl (Nat.le_of_ble_eq_true rfl) tw_1830 tw_1832 tw_25 tw_99 cw_M_wantText hy_M_wantText (Nat.le_of_ble_eq_true rfl) (p_M_wantText (d + 2) a0 a2 (0 : Int32) h) fun _ h2 => ?_
      refine gk_iload_n (pc := 109) 1 d_M_texts_109 rfl ?_
      refine gk_bipush (pc := 110) (60 : Int32) d_M_texts_110 rfl ?_
      refine gk_icmp_lt (pc := 112) 127 d_M_texts_112 rfl (fun _ => ?_) (fun _ => ?_)
      · exact p_M_texts_b127 d a0 a1 a2 a3 h2
      · refine gk_iload_n (pc := 115) 1 d_M_texts_115 rfl ?_
        refine gk_bipush (pc := 116) (65 : Int32) d_M_texts_116 rfl ?_
        refine gk_icmp_eq (pc := 118) 127 d_M_texts_118 rfl (fun _ => ?_) (fun _ => ?_)
        · exact p_M_texts_b127 d a0 a1 a2 a3 h2
        · refine gk_iload_n (pc := 121) 1 d_M_texts_121 rfl ?_
          refine gk_bipush (pc := 122) (67 : Int32) d_M_texts_122 rfl ?_
          refine gk_icmp_ne (pc := 124) 137 d_M_texts_124 rfl (fun _ => ?_) (fun _ => ?_)
          · exact p_M_texts_b127 d a0 a1 a2 a3 h2
          · refine gk_iload_n (pc := 137) 1 d_M_texts_137 rfl ?_
            refine gk_bipush (pc := 138) (66 : Int32) d_M_texts_138 rfl ?_
            refine gk_icmp_ne (pc := 140) 152 d_M_texts_140 rfl (fun _ => ?_) (fun _ => ?_)
            · refine gk_aload_n (pc := 143) 0 d_M_texts_143 rfl ?_
              refine gk_iload_n (pc := 144) 2 d_M_texts_144 rfl ?_
              refine gk_iload_n (pc := 145) 3 d_M_texts_145 rfl ?_
              refine gk_callV (pc := 146) (d := (d + 5)) (w' := gv_V) (as := [.int a2, .int a3]) (n := 2) 7 d_M_texts_146 rfl rfl rfl rfl (Nat.le_of_ble_eq_true rfl) tw_2088 tw_2090 tw_73 tw_99 cw_M_substitute hy_M_substitute (Nat.le_of_ble_eq_true rfl) (p_M_substitute d a0 a2 a3 h2) fun _ h3 => ?_
              refine gk_goto (pc := 149) 194 d_M_texts_149 rfl ?_
              refine gk_weak [] (L' := []) rfl ?_
              exact p_M_texts_b194 d h3
            · refine gk_iload_n (pc := 152) 1 d_M_texts_152 rfl ?_
              refine gk_bipush (pc := 153) (68 : Int32) d_M_texts_153 rfl ?_
              refine gk_icmp_eq (pc := 155) 164 d_M_texts_155 rfl (fun _ => ?_) (fun _ => ?_)
              · exact p_M_texts_b164 d a0 a1 a2 a3 h2
              · refine gk_iload_n (pc := 158) 1 d_M_texts_158 rfl ?_
                refine gk_bipush (pc := 159) (69 : Int32) d_M_texts_159 rfl ?_
                refine gk_icmp_ne (pc := 161) 174 d_M_texts_161 rfl (fun _ => ?_) (fun _ => ?_)
                · exact p_M_texts_b164 d a0 a1 a2 a3 h2
                · refine gk_iload_n (pc := 174) 1 d_M_texts_174 rfl ?_
                  refine gk_bipush (pc := 175) (69 : Int32) d_M_texts_175 rfl ?_
                  refine gk_icmp_le (pc := 177) 189 d_M_texts_177 rfl (fun _ => ?_) (fun _ => ?_)
                  · refine gk_aload_n (pc := 189) 0 d_M_texts_189 rfl ?_
                    refine gk_iload_n (pc := 190) 1 d_M_texts_190 rfl ?_
                    refine gk_callV (pc := 191) (d := (d + 5)) (w' := gv_V) (as := [.int a1]) (n := 1) 7 d_M_texts_191 rfl rfl rfl rfl (Nat.le_of_ble_eq_true rfl) tw_2104 tw_2106 tw_77 tw_99 cw_M_letters hy_M_letters (Nat.le_of_ble_eq_true rfl) (p_M_letters (d + 3) a0 a1 h2) fun _ h4 => ?_
                    refine gk_weak [] (L' := []) rfl ?_
                    exact p_M_texts_b194 d h4
                  · refine gk_aload_n (pc := 180) 0 d_M_texts_180 rfl ?_
                    refine gk_iload_n (pc := 181) 1 d_M_texts_181 rfl ?_
                    refine gk_iload_n (pc := 182) 2 d_M_texts_182 rfl ?_
                    refine gk_callV (pc := 183) (d := (d + 5)) (w' := gv_V) (as := [.int a1, .int a2]) (n := 2) 7 d_M_texts_183 rfl rfl rfl rfl (Nat.le_of_ble_eq_true rfl) tw_2100 tw_2102 tw_76 tw_99 cw_M_lookAt hy_M_lookAt (Nat.le_of_ble_eq_true rfl) (p_M_lookAt (d + 1) a0 a1 a2 h2) fun _ h5 => ?_
                    refine gk_goto (pc := 186) 194 d_M_texts_186 rfl ?_
                    refine gk_weak [] (L' := []) rfl ?_
                    exact p_M_texts_b194 d h5
theorem p_M_texts (d : Nat) (a0 : Option Nat) (a1 : Int32) (a2 : Int32) (a3 : Int32) (h : gk_H) : ∀ r h1, f_M_texts a0 a1 a2 a3 h = some (r, h1) → gk_M (d + 6) y_M_texts b_M_texts 6 none [va_rf a0, .int a1, .int a2, .int a3] h (.inl (gv_V r)) h1 :=
  fun r h1 e => gk_M_of2 (by decide +kernel) (by simp [lv_args, gk_cat_rf, gk_catI, gk_catJ, gk_catD, gv_V, gv_I, gv_J, gv_D, gv_R]) (by simp [lg_sl, gk_cat_rf, gk_catI, gk_catJ, gk_catD, gv_V, gv_I, gv_J, gv_D, gv_R]) (w_M_texts d a0 a1 a2 a3 h r h1 e)
theorem d_M_part_0 : decode b_M_part 0 = .ok (.iconst 0, 1) := by decide +kernel
theorem d_M_part_1 : decode b_M_part 1 = .ok (.istore 6, 2) := by decide +kernel
theorem d_M_part_3 : decode b_M_part 3 = .ok (.iload_n 2, 1) := by decide +kernel
theorem d_M_part_4 : decode b_M_part 4 = .ok (.istore 7, 2) := by decide +kernel
theorem d_M_part_6 : decode b_M_part 6 = .ok (.iload 7, 2) := by decide +kernel
theorem d_M_part_8 : decode b_M_part 8 = .ok (.iload_n 3, 1) := by decide +kernel
theorem d_M_part_9 : decode b_M_part 9 = .ok (.if_icmp .ge 56, 3) := by decide +kernel
theorem d_M_part_12 : decode b_M_part 12 = .ok (.iload 4, 2) := by decide +kernel
theorem d_M_part_14 : decode b_M_part 14 = .ok (.istore 8, 2) := by decide +kernel
theorem d_M_part_16 : decode b_M_part 16 = .ok (.iload 8, 2) := by decide +kernel
theorem d_M_part_18 : decode b_M_part 18 = .ok (.iload 5, 2) := by decide +kernel
theorem d_M_part_20 : decode b_M_part 20 = .ok (.if_icmp .ge 39, 3) := by decide +kernel
theorem d_M_part_23 : decode b_M_part 23 = .ok (.aload_n 0, 1) := by decide +kernel
theorem d_M_part_24 : decode b_M_part 24 = .ok (.bipush 16, 2) := by decide +kernel
theorem d_M_part_26 : decode b_M_part 26 = .ok (.iload_n 1, 1) := by decide +kernel
theorem d_M_part_27 : decode b_M_part 27 = .ok (.imul, 1) := by decide +kernel
theorem d_M_part_28 : decode b_M_part 28 = .ok (.iload 7, 2) := by decide +kernel
theorem d_M_part_30 : decode b_M_part 30 = .ok (.aload_n 0, 1) := by decide +kernel
theorem d_M_part_31 : decode b_M_part 31 = .ok (.getfield 20, 3) := by decide +kernel
theorem d_M_part_34 : decode b_M_part 34 = .ok (.iload_n 1, 1) := by decide +kernel
theorem d_M_part_35 : decode b_M_part 35 = .ok (.iaload, 1) := by decide +kernel
theorem d_M_part_36 : decode b_M_part 36 = .ok (.imul, 1) := by decide +kernel
theorem d_M_part_37 : decode b_M_part 37 = .ok (.iadd, 1) := by decide +kernel
theorem d_M_part_38 : decode b_M_part 38 = .ok (.iload 8, 2) := by decide +kernel
theorem d_M_part_40 : decode b_M_part 40 = .ok (.iadd, 1) := by decide +kernel
theorem d_M_part_41 : decode b_M_part 41 = .ok (.sipush 256, 3) := by decide +kernel
theorem d_M_part_44 : decode b_M_part 44 = .ok (.iload 6, 2) := by decide +kernel
theorem d_M_part_46 : decode b_M_part 46 = .ok (.iadd, 1) := by decide +kernel
theorem d_M_part_47 : decode b_M_part 47 = .ok (.invokevirtual 65, 3) := by decide +kernel
theorem d_M_part_50 : decode b_M_part 50 = .ok (.iinc 6 1, 3) := by decide +kernel
theorem d_M_part_53 : decode b_M_part 53 = .ok (.iinc 8 1, 3) := by decide +kernel
theorem d_M_part_56 : decode b_M_part 56 = .ok (.goto (-40), 3) := by decide +kernel
theorem d_M_part_59 : decode b_M_part 59 = .ok (.iinc 7 1, 3) := by decide +kernel
theorem d_M_part_62 : decode b_M_part 62 = .ok (.goto (-56), 3) := by decide +kernel
theorem d_M_part_65 : decode b_M_part 65 = .ok (.aload_n 0, 1) := by decide +kernel
theorem d_M_part_66 : decode b_M_part 66 = .ok (.getfield 13, 3) := by decide +kernel
theorem d_M_part_69 : decode b_M_part 69 = .ok (.bipush 16, 2) := by decide +kernel
theorem d_M_part_71 : decode b_M_part 71 = .ok (.iconst 5, 1) := by decide +kernel
theorem d_M_part_72 : decode b_M_part 72 = .ok (.iastore, 1) := by decide +kernel
theorem d_M_part_73 : decode b_M_part 73 = .ok (.aload_n 0, 1) := by decide +kernel
theorem d_M_part_74 : decode b_M_part 74 = .ok (.getfield 17, 3) := by decide +kernel
theorem d_M_part_77 : decode b_M_part 77 = .ok (.bipush 16, 2) := by decide +kernel
theorem d_M_part_79 : decode b_M_part 79 = .ok (.iload_n 3, 1) := by decide +kernel
theorem d_M_part_80 : decode b_M_part 80 = .ok (.iload_n 2, 1) := by decide +kernel
theorem d_M_part_81 : decode b_M_part 81 = .ok (.isub, 1) := by decide +kernel
theorem d_M_part_82 : decode b_M_part 82 = .ok (.iastore, 1) := by decide +kernel
theorem d_M_part_83 : decode b_M_part 83 = .ok (.aload_n 0, 1) := by decide +kernel
theorem d_M_part_84 : decode b_M_part 84 = .ok (.getfield 20, 3) := by decide +kernel
theorem d_M_part_87 : decode b_M_part 87 = .ok (.bipush 16, 2) := by decide +kernel
theorem d_M_part_89 : decode b_M_part 89 = .ok (.iload 5, 2) := by decide +kernel
theorem d_M_part_91 : decode b_M_part 91 = .ok (.iload 4, 2) := by decide +kernel
theorem d_M_part_93 : decode b_M_part 93 = .ok (.isub, 1) := by decide +kernel
theorem d_M_part_94 : decode b_M_part 94 = .ok (.iastore, 1) := by decide +kernel
theorem d_M_part_95 : decode b_M_part 95 = .ok (.return_, 1) := by decide +kernel
theorem p_M_part_b16 (d : Nat) (b6 : Option Nat → Int32 → Int32 → Int32 → Int32 → Int32 → Int32 → Int32 → gk_H → Option (Unit × gk_H)) (q6 : ∀ (v0 : Option Nat) (v1 : Int32) (v2 : Int32) (v3 : Int32) (v4 : Int32) (v5 : Int32) (v6 : Int32) (v7 : Int32) (h : gk_H), gk_P gw_V (d + 1) y_M_part b_M_part 9 none [] (b6 v0 v1 v2 v3 v4 v5 v6 v7 h) 6 [(0, va_rf v0), (1, .int v1), (2, .int v2), (3, .int v3), (4, .int v4), (5, .int v5), (6, .int v6), (7, .int v7)] [] h) : ∀ (fu : Nat) (v0 : Option Nat) (v1 : Int32) (v2 : Int32) (v3 : Int32) (v4 : Int32) (v5 : Int32) (v6 : Int32) (v7 : Int32) (v8 : Int32) (h : gk_H), gk_P gw_V (d + 1) y_M_part b_M_part 9 none [] (f_M_part_b16 b6 fu v0 v1 v2 v3 v4 v5 v6 v7 v8 h) 16 [(0, va_rf v0), (1, .int v1), (2, .int v2), (3, .int v3), (4, .int v4), (5, .int v5), (6, .int v6), (7, .int v7), (8, .int v8)] [] h := by
  intro fu
  induction fu with
  | zero => intros; exact gk_none
  | succ fu q16 =>
    intro v0 v1 v2 v3 v4 v5 v6 v7 v8 h
    rw [f_M_part_b16]
    refine gk_iload (pc := 16) 8 d_M_part_16 rfl ?_
    refine gk_iload (pc := 18) 5 d_M_part_18 rfl ?_
    refine gk_icmp_ge (pc := 20) 59 d_M_part_20 rfl (fun _ => ?_) (fun _ => ?_)
    · refine gk_iincN (pc := 59) 7 (1 : Int32) (L' := fun x1 => [(7, .int x1), (0, va_rf v0), (1, .int v1), (2, .int v2), (3, .int v3), (4, .int v4), (5, .int v5), (6, .int v6), (8, .int v8)]) d_M_part_59 rfl rfl (Nat.le_of_ble_eq_true rfl) (fun _ => rfl) fun x1 => ?_
      refine gk_goto (pc := 62) 6 d_M_part_62 rfl ?_
      refine gk_weak [1, 2, 3, 4, 5, 6, 7, 0] (L' := [(0, va_rf v0), (1, .int v1), (2, .int v2), (3, .int v3), (4, .int v4), (5, .int v5), (6, .int v6), (7, .int x1)]) rfl ?_
      exact q6 v0 v1 v2 v3 v4 v5 v6 x1 h
    · refine gk_aload_n (pc := 23) 0 d_M_part_23 rfl ?_
      refine gk_bipush (pc := 24) (16 : Int32) d_M_part_24 rfl ?_
      refine gk_iload_n (pc := 26) 1 d_M_part_26 rfl ?_
      refine gk_imul (pc := 27) d_M_part_27 ?_
      refine gk_iload (pc := 28) 7 d_M_part_28 rfl ?_
      refine gk_aload_n (pc := 30) 0 d_M_part_30 rfl ?_
      refine gk_getR (pc := 31) 7 6 d_M_part_31 rfl (Nat.le_of_ble_eq_true rfl) tw_1651 fun x2 => ?_
      refine gk_iload_n (pc := 34) 1 d_M_part_34 rfl ?_
      refine gk_iald (pc := 35) d_M_part_35 fun x3 => ?_
      refine gk_imul (pc := 36) d_M_part_36 ?_
      refine gk_iadd (pc := 37) d_M_part_37 ?_
      refine gk_iload (pc := 38) 8 d_M_part_38 rfl ?_
      refine gk_iadd (pc := 40) d_M_part_40 ?_
      refine gk_sipush (pc := 41) (256 : Int32) d_M_part_41 rfl ?_
      refine gk_iload (pc := 44) 6 d_M_part_44 rfl ?_
      refine gk_iadd (pc := 46) d_M_part_46 ?_
      refine gk_callV (pc := 47) (d := d) (w' := gv_V) (as := [.int ((((16 : Int32) * v1) + (v7 * x3)) + v8), .int ((256 : Int32) + v6)]) (n := 2) 7 d_M_part_47 rfl rfl rfl rfl (Nat.le_of_ble_eq_true rfl) tw_1753 tw_1755 tw_16 tw_99 cw_M_copyCell hy_M_copyCell (Nat.le_of_ble_eq_true rfl) (p_M_copyCell d v0 ((((16 : Int32) * v1) + (v7 * x3)) + v8) ((256 : Int32) + v6) h) fun _ h1 => ?_
      refine gk_iincN (pc := 50) 6 (1 : Int32) (L' := fun x4 => [(6, .int x4), (0, va_rf v0), (1, .int v1), (2, .int v2), (3, .int v3), (4, .int v4), (5, .int v5), (7, .int v7), (8, .int v8)]) d_M_part_50 rfl rfl (Nat.le_of_ble_eq_true rfl) (fun _ => rfl) fun x4 => ?_
      refine gk_iincN (pc := 53) 8 (1 : Int32) (L' := fun x5 => [(8, .int x5), (6, .int x4), (0, va_rf v0), (1, .int v1), (2, .int v2), (3, .int v3), (4, .int v4), (5, .int v5), (7, .int v7)]) d_M_part_53 rfl rfl (Nat.le_of_ble_eq_true rfl) (fun _ => rfl) fun x5 => ?_
      refine gk_goto (pc := 56) 16 d_M_part_56 rfl ?_
      refine gk_weak [2, 3, 4, 5, 6, 7, 1, 8, 0] (L' := [(0, va_rf v0), (1, .int v1), (2, .int v2), (3, .int v3), (4, .int v4), (5, .int v5), (6, .int x4), (7, .int v7), (8, .int x5)]) rfl ?_
      exact q16 v0 v1 v2 v3 v4 v5 x4 v7 x5 h1
theorem p_M_part_b6 (d : Nat)  : ∀ (fu : Nat) (v0 : Option Nat) (v1 : Int32) (v2 : Int32) (v3 : Int32) (v4 : Int32) (v5 : Int32) (v6 : Int32) (v7 : Int32) (h : gk_H), gk_P gw_V (d + 1) y_M_part b_M_part 9 none [] (f_M_part_b6  fu v0 v1 v2 v3 v4 v5 v6 v7 h) 6 [(0, va_rf v0), (1, .int v1), (2, .int v2), (3, .int v3), (4, .int v4), (5, .int v5), (6, .int v6), (7, .int v7)] [] h := by
  intro fu
  induction fu with
  | zero => intros; exact gk_none
  | succ fu q6 =>
    intro v0 v1 v2 v3 v4 v5 v6 v7 h
    rw [f_M_part_b6]
    refine gk_iload (pc := 6) 7 d_M_part_6 rfl ?_
    refine gk_iload_n (pc := 8) 3 d_M_part_8 rfl ?_
    refine gk_icmp_ge (pc := 9) 65 d_M_part_9 rfl (fun _ => ?_) (fun _ => ?_)
    · refine gk_aload_n (pc := 65) 0 d_M_part_65 rfl ?_
      refine gk_getR (pc := 66) 7 4 d_M_part_66 rfl (Nat.le_of_ble_eq_true rfl) tw_1649 fun x1 => ?_
      refine gk_bipush (pc := 69) (16 : Int32) d_M_part_69 rfl ?_
      refine gk_iconst (pc := 71) (5 : Int32) d_M_part_71 rfl ?_
      refine gk_iast (pc := 72) d_M_part_72 fun h1 => ?_
      refine gk_aload_n (pc := 73) 0 d_M_part_73 rfl ?_
      refine gk_getR (pc := 74) 7 5 d_M_part_74 rfl (Nat.le_of_ble_eq_true rfl) tw_1650 fun x2 => ?_
      refine gk_bipush (pc := 77) (16 : Int32) d_M_part_77 rfl ?_
      refine gk_iload_n (pc := 79) 3 d_M_part_79 rfl ?_
      refine gk_iload_n (pc := 80) 2 d_M_part_80 rfl ?_
      refine gk_isub (pc := 81) d_M_part_81 ?_
      refine gk_iast (pc := 82) d_M_part_82 fun h2 => ?_
      refine gk_aload_n (pc := 83) 0 d_M_part_83 rfl ?_
      refine gk_getR (pc := 84) 7 6 d_M_part_84 rfl (Nat.le_of_ble_eq_true rfl) tw_1651 fun x3 => ?_
      refine gk_bipush (pc := 87) (16 : Int32) d_M_part_87 rfl ?_
      refine gk_iload (pc := 89) 5 d_M_part_89 rfl ?_
      refine gk_iload (pc := 91) 4 d_M_part_91 rfl ?_
      refine gk_isub (pc := 93) d_M_part_93 ?_
      refine gk_iast (pc := 94) d_M_part_94 fun h3 => ?_
      exact gk_vret (pc := 95) rfl d_M_part_95 rfl
    · refine gk_iload (pc := 12) 4 d_M_part_12 rfl ?_
      refine gk_istore (pc := 14) (L' := [(8, .int v4), (0, va_rf v0), (1, .int v1), (2, .int v2), (3, .int v3), (4, .int v4), (5, .int v5), (6, .int v6), (7, .int v7)]) d_M_part_14 (Nat.le_of_ble_eq_true rfl) rfl ?_
      refine gk_weak [1, 2, 3, 4, 5, 6, 7, 8, 0] (L' := [(0, va_rf v0), (1, .int v1), (2, .int v2), (3, .int v3), (4, .int v4), (5, .int v5), (6, .int v6), (7, .int v7), (8, .int v4)]) rfl ?_
      exact p_M_part_b16 d (f_M_part_b6 fu) q6 gk_F v0 v1 v2 v3 v4 v5 v6 v7 v4 h
theorem w_M_part (d : Nat) (a0 : Option Nat) (a1 : Int32) (a2 : Int32) (a3 : Int32) (a4 : Int32) (a5 : Int32) (h : gk_H) : gk_P gw_V (d + 1) y_M_part b_M_part 9 none [] (f_M_part a0 a1 a2 a3 a4 a5 h) 0 [(0, va_rf a0), (1, .int a1), (2, .int a2), (3, .int a3), (4, .int a4), (5, .int a5)] [] h := by
  unfold f_M_part
  refine gk_iconst (pc := 0) (0 : Int32) d_M_part_0 rfl ?_
  refine gk_istore (pc := 1) (L' := [(6, .int (0 : Int32)), (0, va_rf a0), (1, .int a1), (2, .int a2), (3, .int a3), (4, .int a4), (5, .int a5)]) d_M_part_1 (Nat.le_of_ble_eq_true rfl) rfl ?_
  refine gk_iload_n (pc := 3) 3 d_M_part_3 rfl ?_
  refine gk_istore (pc := 4) (L' := [(7, .int a2), (6, .int (0 : Int32)), (0, va_rf a0), (1, .int a1), (2, .int a2), (3, .int a3), (4, .int a4), (5, .int a5)]) d_M_part_4 (Nat.le_of_ble_eq_true rfl) rfl ?_
  refine gk_weak [2, 3, 4, 5, 6, 7, 1, 0] (L' := [(0, va_rf a0), (1, .int a1), (2, .int a2), (3, .int a3), (4, .int a4), (5, .int a5), (6, .int (0 : Int32)), (7, .int a2)]) rfl ?_
  exact p_M_part_b6 d gk_F a0 a1 a2 a3 a4 a5 (0 : Int32) a2 h
theorem p_M_part (d : Nat) (a0 : Option Nat) (a1 : Int32) (a2 : Int32) (a3 : Int32) (a4 : Int32) (a5 : Int32) (h : gk_H) : ∀ r h1, f_M_part a0 a1 a2 a3 a4 a5 h = some (r, h1) → gk_M (d + 1) y_M_part b_M_part 9 none [va_rf a0, .int a1, .int a2, .int a3, .int a4, .int a5] h (.inl (gv_V r)) h1 :=
  fun r h1 e => gk_M_of2 (by decide +kernel) (by simp [lv_args, gk_cat_rf, gk_catI, gk_catJ, gk_catD, gv_V, gv_I, gv_J, gv_D, gv_R]) (by simp [lg_sl, gk_cat_rf, gk_catI, gk_catJ, gk_catD, gv_V, gv_I, gv_J, gv_D, gv_R]) (w_M_part d a0 a1 a2 a3 a4 a5 h r h1 e)
