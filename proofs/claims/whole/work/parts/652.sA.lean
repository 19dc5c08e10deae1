theorem d_Li_look_0 : decode b_Li_look 0 = .ok (.aload_n 1, 1) := by decide +kernel
theorem d_Li_look_1 : decode b_Li_look 1 = .ok (.invokevirtual 27, 3) := by decide +kernel
theorem d_Li_look_4 : decode b_Li_look 4 = .ok (.sipush 255, 3) := by decide +kernel
theorem d_Li_look_7 : decode b_Li_look 7 = .ok (.invokestatic 53, 3) := by decide +kernel
theorem d_Li_look_10 : decode b_Li_look 10 = .ok (.istore_n 3, 1) := by decide +kernel
theorem d_Li_look_11 : decode b_Li_look 11 = .ok (.iconst 0, 1) := by decide +kernel
theorem d_Li_look_12 : decode b_Li_look 12 = .ok (.istore 4, 2) := by decide +kernel
theorem d_Li_look_14 : decode b_Li_look 14 = .ok (.iload 4, 2) := by decide +kernel
theorem d_Li_look_16 : decode b_Li_look 16 = .ok (.iload_n 3, 1) := by decide +kernel
theorem d_Li_look_17 : decode b_Li_look 17 = .ok (.if_icmp .gt 31, 3) := by decide +kernel
theorem d_Li_look_20 : decode b_Li_look 20 = .ok (.aload_n 0, 1) := by decide +kernel
theorem d_Li_look_21 : decode b_Li_look 21 = .ok (.getfield 19, 3) := by decide +kernel
theorem d_Li_look_24 : decode b_Li_look 24 = .ok (.iload 4, 2) := by decide +kernel
theorem d_Li_look_26 : decode b_Li_look 26 = .ok (.iload_n 2, 1) := by decide +kernel
theorem d_Li_look_27 : decode b_Li_look 27 = .ok (.ifCond .ne 9, 3) := by decide +kernel
theorem d_Li_look_30 : decode b_Li_look 30 = .ok (.iload 4, 2) := by decide +kernel
theorem d_Li_look_32 : decode b_Li_look 32 = .ok (.iload_n 3, 1) := by decide +kernel
theorem d_Li_look_33 : decode b_Li_look 33 = .ok (.if_icmp .ne 7, 3) := by decide +kernel
theorem d_Li_look_36 : decode b_Li_look 36 = .ok (.iconst 1, 1) := by decide +kernel
theorem d_Li_look_37 : decode b_Li_look 37 = .ok (.goto 4, 3) := by decide +kernel
theorem d_Li_look_40 : decode b_Li_look 40 = .ok (.iconst 0, 1) := by decide +kernel
theorem d_Li_look_41 : decode b_Li_look 41 = .ok (.bastore, 1) := by decide +kernel
theorem d_Li_look_42 : decode b_Li_look 42 = .ok (.iinc 4 1, 3) := by decide +kernel
theorem d_Li_look_45 : decode b_Li_look 45 = .ok (.goto (-31), 3) := by decide +kernel
theorem d_Li_look_48 : decode b_Li_look 48 = .ok (.iconst 0, 1) := by decide +kernel
theorem d_Li_look_49 : decode b_Li_look 49 = .ok (.istore 4, 2) := by decide +kernel
theorem d_Li_look_51 : decode b_Li_look 51 = .ok (.iload 4, 2) := by decide +kernel
theorem d_Li_look_53 : decode b_Li_look 53 = .ok (.iload_n 3, 1) := by decide +kernel
theorem d_Li_look_54 : decode b_Li_look 54 = .ok (.if_icmp .ge 25, 3) := by decide +kernel
theorem d_Li_look_57 : decode b_Li_look 57 = .ok (.aload_n 0, 1) := by decide +kernel
theorem d_Li_look_58 : decode b_Li_look 58 = .ok (.getfield 15, 3) := by decide +kernel
theorem d_Li_look_61 : decode b_Li_look 61 = .ok (.iload 4, 2) := by decide +kernel
theorem d_Li_look_63 : decode b_Li_look 63 = .ok (.aload_n 1, 1) := by decide +kernel
theorem d_Li_look_64 : decode b_Li_look 64 = .ok (.iload 4, 2) := by decide +kernel
theorem d_Li_look_66 : decode b_Li_look 66 = .ok (.invokevirtual 33, 3) := by decide +kernel
theorem d_Li_look_69 : decode b_Li_look 69 = .ok (.invokestatic 37, 3) := by decide +kernel
theorem d_Li_look_72 : decode b_Li_look 72 = .ok (.castore, 1) := by decide +kernel
theorem d_Li_look_73 : decode b_Li_look 73 = .ok (.iinc 4 1, 3) := by decide +kernel
theorem d_Li_look_76 : decode b_Li_look 76 = .ok (.goto (-25), 3) := by decide +kernel
theorem d_Li_look_79 : decode b_Li_look 79 = .ok (.aload_n 0, 1) := by decide +kernel
theorem d_Li_look_80 : decode b_Li_look 80 = .ok (.getfield 23, 3) := by decide +kernel
theorem d_Li_look_83 : decode b_Li_look 83 = .ok (.iconst 1, 1) := by decide +kernel
theorem d_Li_look_84 : decode b_Li_look 84 = .ok (.isub, 1) := by decide +kernel
theorem d_Li_look_85 : decode b_Li_look 85 = .ok (.istore 4, 2) := by decide +kernel
theorem d_Li_look_87 : decode b_Li_look 87 = .ok (.iload 4, 2) := by decide +kernel
theorem d_Li_look_89 : decode b_Li_look 89 = .ok (.ifCond .lt 41, 3) := by decide +kernel
theorem d_Li_look_92 : decode b_Li_look 92 = .ok (.aload_n 0, 1) := by decide +kernel
theorem d_Li_look_93 : decode b_Li_look 93 = .ok (.getfield 9, 3) := by decide +kernel
theorem d_Li_look_96 : decode b_Li_look 96 = .ok (.iload 4, 2) := by decide +kernel
theorem d_Li_look_98 : decode b_Li_look 98 = .ok (.iaload, 1) := by decide +kernel
theorem d_Li_look_99 : decode b_Li_look 99 = .ok (.bipush (-2), 2) := by decide +kernel
theorem d_Li_look_101 : decode b_Li_look 101 = .ok (.if_icmp .ne 11, 3) := by decide +kernel
theorem d_Li_look_104 : decode b_Li_look 104 = .ok (.aload_n 0, 1) := by decide +kernel
theorem d_Li_look_105 : decode b_Li_look 105 = .ok (.iload_n 3, 1) := by decide +kernel
theorem d_Li_look_106 : decode b_Li_look 106 = .ok (.invokevirtual 56, 3) := by decide +kernel
theorem d_Li_look_109 : decode b_Li_look 109 = .ok (.goto 15, 3) := by decide +kernel
theorem d_Li_look_112 : decode b_Li_look 112 = .ok (.aload_n 0, 1) := by decide +kernel
theorem d_Li_look_113 : decode b_Li_look 113 = .ok (.iload_n 3, 1) := by decide +kernel
theorem d_Li_look_114 : decode b_Li_look 114 = .ok (.aload_n 0, 1) := by decide +kernel
theorem d_Li_look_115 : decode b_Li_look 115 = .ok (.getfield 9, 3) := by decide +kernel
theorem d_Li_look_118 : decode b_Li_look 118 = .ok (.iload 4, 2) := by decide +kernel
theorem d_Li_look_120 : decode b_Li_look 120 = .ok (.iaload, 1) := by decide +kernel
theorem d_Li_look_121 : decode b_Li_look 121 = .ok (.invokevirtual 60, 3) := by decide +kernel
theorem d_Li_look_124 : decode b_Li_look 124 = .ok (.iinc 4 (-1), 3) := by decide +kernel
theorem d_Li_look_127 : decode b_Li_look 127 = .ok (.goto (-40), 3) := by decide +kernel
theorem d_Li_look_130 : decode b_Li_look 130 = .ok (.return_, 1) := by decide +kernel
theorem p_Li_look_b124 (d : Nat) (b87 : Option Nat → Int32 → Int32 → gk_H → Option (Unit × gk_H)) (q87 : ∀ (v0 : Option Nat) (v3 : Int32) (v4 : Int32) (h : gk_H), gk_P gw_V (d + 4) y_Li_look b_Li_look 5 none [] (b87 v0 v3 v4 h) 87 [(0, va_rf v0), (3, .int v3), (4, .int v4)] [] h) (v0 : Option Nat) (v3 : Int32) (v4 : Int32) (h : gk_H) : gk_P gw_V (d + 4) y_Li_look b_Li_look 5 none [] (f_Li_look_b124 b87 v0 v3 v4 h) 124 [(0, va_rf v0), (3, .int v3), (4, .int v4)] [] h := by
  unfold f_Li_look_b124
  refine gk_iincN (pc := 124) 2 (-1 : Int32) (L' := fun x1 => [(4, .int x1), (0, va_rf v0), (3, .int v3)]) d_Li_look_124 rfl rfl (Nat.le_of_ble_eq_true rfl) (fun _ => rfl) fun x1 => ?_
  refine gk_goto (pc := 127) 87 d_Li_look_127 rfl ?_
  refine gk_weak [1, 2, 0] (L' := [(0, va_rf v0), (3, .int v3), (4, .int x1)]) rfl ?_
  exact q87 v0 v3 x1 h
theorem p_Li_look_b87 (d : Nat)  : ∀ (fu : Nat) (v0 : Option Nat) (v3 : Int32) (v4 : Int32) (h : gk_H), gk_P gw_V (d + 4) y_Li_look b_Li_look 5 none [] (f_Li_look_b87  fu v0 v3 v4 h) 87 [(0, va_rf v0), (3, .int v3), (4, .int v4)] [] h := by
  intro fu
  induction fu with
  | zero => intros; exact gk_none
  | succ fu q87 =>
    intro v0 v3 v4 h
    rw [f_Li_look_b87]
    refine gk_iload (pc := 87) 2 d_Li_look_87 rfl ?_
    refine gk_if_lt (pc := 89) 130 d_Li_look_89 rfl (fun _ => ?_) (fun _ => ?_)
    · exact gk_vret (pc := 130) rfl d_Li_look_130 rfl
    · refine gk_aload_n (pc := 92) 0 d_Li_look_92 rfl ?_
      refine gk_getR (pc := 93) 3 0 d_Li_look_93 rfl (Nat.le_of_ble_eq_true rfl) tw_244 fun x1 => ?_
      refine gk_iload (pc := 96) 2 d_Li_look_96 rfl ?_
      refine gk_iald (pc := 98) d_Li_look_98 fun x2 => ?_
      refine gk_bipush (pc := 99) (-2 : Int32) d_Li_look_99 rfl ?_
      refine gk_icmp_ne (pc := 101) 112 d_Li_look_101 rfl (fun _ => ?_) (fun _ => ?_)
      · refine gk_aload_n (pc := 104) 0 d_Li_look_104 rfl ?_
        refine gk_iload_n (pc := 105) 1 d_Li_look_105 rfl ?_
        refine gk_callV (pc := 106) (d := (d + 3)) (w' := gv_V) (as := [.int v3]) (n := 1) 3 d_Li_look_106 rfl rfl rfl rfl (Nat.le_of_ble_eq_true rfl) tw_1189 tw_1191 tw_10 tw_98 cw_Li_stepOverMany hy_Li_stepOverMany (Nat.le_of_ble_eq_true rfl) (p_Li_stepOverMany (d + 3) v0 v3 h) fun _ h1 => ?_
        refine gk_goto (pc := 109) 124 d_Li_look_109 rfl ?_
        exact p_Li_look_b124 d (f_Li_look_b87 fu) q87 v0 v3 v4 h1
      · refine gk_aload_n (pc := 112) 0 d_Li_look_112 rfl ?_
        refine gk_iload_n (pc := 113) 1 d_Li_look_113 rfl ?_
        refine gk_aload_n (pc := 114) 0 d_Li_look_114 rfl ?_
        refine gk_getR (pc := 115) 3 0 d_Li_look_115 rfl (Nat.le_of_ble_eq_true rfl) tw_244 fun x3 => ?_
        refine gk_iload (pc := 118) 2 d_Li_look_118 rfl ?_
        refine gk_iald (pc := 120) d_Li_look_120 fun x4 => ?_
        refine gk_callV (pc := 121) (d := (d + 3)) (w' := gv_V) (as := [.int v3, .int x4]) (n := 2) 3 d_Li_look_121 rfl rfl rfl rfl (Nat.le_of_ble_eq_true rfl) tw_1193 tw_1195 tw_11 tw_98 cw_Li_stepOverOne hy_Li_stepOverOne (Nat.le_of_ble_eq_true rfl) (p_Li_stepOverOne (d + 3) v0 v3 x4 h) fun _ h2 => ?_
        exact p_Li_look_b124 d (f_Li_look_b87 fu) q87 v0 v3 v4 h2
theorem p_Li_look_b51 (d : Nat)  : ∀ (fu : Nat) (v0 : Option Nat) (v1 : Option Nat) (v3 : Int32) (v4 : Int32) (h : gk_H), gk_P gw_V (d + 4) y_Li_look b_Li_look 5 none [] (f_Li_look_b51  fu v0 v1 v3 v4 h) 51 [(0, va_rf v0), (1, va_rf v1), (3, .int v3), (4, .int v4)] [] h := by
  intro fu
  induction fu with
  | zero => intros; exact gk_none
  | succ fu q51 =>
    intro v0 v1 v3 v4 h
    rw [f_Li_look_b51]
    refine gk_iload (pc := 51) 3 d_Li_look_51 rfl ?_
    refine gk_iload_n (pc := 53) 2 d_Li_look_53 rfl ?_
    refine gk_icmp_ge (pc := 54) 79 d_Li_look_54 rfl (fun _ => ?_) (fun _ => ?_)
    · refine gk_aload_n (pc := 79) 0 d_Li_look_79 rfl ?_
      refine gk_getI (pc := 80) 3 1 d_Li_look_80 rfl (Nat.le_of_ble_eq_true rfl) tw_245 fun x1 => ?_
      refine gk_iconst (pc := 83) (1 : Int32) d_Li_look_83 rfl ?_
      refine gk_isub (pc := 84) d_Li_look_84 ?_
      refine gk_topI (pc := 85) fun x2 => ?_
      refine gk_istore (pc := 85) (L' := [(4, .int x2), (0, va_rf v0), (1, va_rf v1), (3, .int v3)]) d_Li_look_85 (Nat.le_of_ble_eq_true rfl) rfl ?_
      refine gk_weak [1, 3, 0] (L' := [(0, va_rf v0), (3, .int v3), (4, .int x2)]) rfl ?_
      exact p_Li_look_b87 d gk_F v0 v3 x2 h
    · refine gk_aload_n (pc := 57) 0 d_Li_look_57 rfl ?_
      refine gk_getR (pc := 58) 3 2 d_Li_look_58 rfl (Nat.le_of_ble_eq_true rfl) tw_246 fun x3 => ?_
      refine gk_iload (pc := 61) 3 d_Li_look_61 rfl ?_
      refine gk_aload_n (pc := 63) 1 d_Li_look_63 rfl ?_
      refine gk_iload (pc := 64) 3 d_Li_look_64 rfl ?_
      refine gk_callV (pc := 66) (d := (d + 3)) (w' := gv_I) (as := [.int v4]) (n := 1) 0 d_Li_look_66 rfl rfl rfl rfl (by simp [gk_cat_rf, gk_catI, gk_catJ, gk_catD, gv_V, gv_I, gv_J, gv_D, gv_R]) tw_1154 tw_811 tw_812 tw_94 cw_St_charAt hy_St_charAt (Nat.le_of_ble_eq_true rfl) (p_St_charAt d v1 v4 h) fun x4 h1 => ?_
      refine gk_callS (pc := 69) (d := (d + 3)) (w' := gv_I) (as := [.int x4]) (n := 1) d_Li_look_69 rfl rfl (by simp [gk_cat_rf, gk_catI, gk_catJ, gk_catD, gv_V, gv_I, gv_J, gv_D, gv_R]) tw_1155 tw_981 tw_116 cw_Le_great hy_Le_great (Nat.le_of_ble_eq_true rfl) (p_Le_great (d + 3) x4 h1) fun x5 h2 => ?_
      refine gk_cast (pc := 72) d_Li_look_72 fun h3 => ?_
      refine gk_iincN (pc := 73) 3 (1 : Int32) (L' := fun x6 => [(4, .int x6), (0, va_rf v0), (1, va_rf v1), (3, .int v3)]) d_Li_look_73 rfl rfl (Nat.le_of_ble_eq_true rfl) (fun _ => rfl) fun x6 => ?_
      refine gk_goto (pc := 76) 51 d_Li_look_76 rfl ?_
      refine gk_weak [1, 2, 3, 0] (L' := [(0, va_rf v0), (1, va_rf v1), (3, .int v3), (4, .int x6)]) rfl ?_
      exact q51 v0 v1 v3 x6 h3
theorem p_Li_look_b41 (d : Nat) (b14 : Option Nat → Option Nat → Int32 → Int32 → Int32 → gk_H → Option (Unit × gk_H)) (q14 : ∀ (v0 : Option Nat) (v1 : Option Nat) (v2 : Int32) (v3 : Int32) (v4 : Int32) (h : gk_H), gk_P gw_V (d + 4) y_Li_look b_Li_look 5 none [] (b14 v0 v1 v2 v3 v4 h) 14 [(0, va_rf v0), (1, va_rf v1), (2, .int v2), (3, .int v3), (4, .int v4)] [] h) (v0 : Option Nat) (v1 : Option Nat) (v2 : Int32) (v3 : Int32) (v4 : Int32) (s0 : Option Nat) (s1 : Int32) (s2 : Int32) (h : gk_H) : gk_P gw_V (d + 4) y_Li_look b_Li_look 5 none [] (f_Li_look_b41 b14 v0 v1 v2 v3 v4 s0 s1 s2 h) 41 [(0, va_rf v0), (1, va_rf v1), (2, .int v2), (3, .int v3), (4, .int v4)] [.int s2, .int s1, va_rf s0] h := by
  unfold f_Li_look_b41
  refine gk_zast (pc := 41) d_Li_look_41 fun h1 => ?_
  refine gk_iincN (pc := 42) 4 (1 : Int32) (L' := fun x1 => [(4, .int x1), (0, va_rf v0), (1, va_rf v1), (2, .int v2), (3, .int v3)]) d_Li_look_42 rfl rfl (Nat.le_of_ble_eq_true rfl) (fun _ => rfl) fun x1 => ?_
  refine gk_goto (pc := 45) 14 d_Li_look_45 rfl ?_
  refine gk_weak [1, 2, 3, 4, 0] (L' := [(0, va_rf v0), (1, va_rf v1), (2, .int v2), (3, .int v3), (4, .int x1)]) rfl ?_
  exact q14 v0 v1 v2 v3 x1 h1
theorem p_Li_look_b36 (d : Nat) (b14 : Option Nat → Option Nat → Int32 → Int32 → Int32 → gk_H → Option (Unit × gk_H)) (q14 : ∀ (v0 : Option Nat) (v1 : Option Nat) (v2 : Int32) (v3 : Int32) (v4 : Int32) (h : gk_H), gk_P gw_V (d + 4) y_Li_look b_Li_look 5 none [] (b14 v0 v1 v2 v3 v4 h) 14 [(0, va_rf v0), (1, va_rf v1), (2, .int v2), (3, .int v3), (4, .int v4)] [] h) (v0 : Option Nat) (v1 : Option Nat) (v2 : Int32) (v3 : Int32) (v4 : Int32) (s0 : Option Nat) (s1 : Int32) (h : gk_H) : gk_P gw_V (d + 4) y_Li_look b_Li_look 5 none [] (f_Li_look_b36 b14 v0 v1 v2 v3 v4 s0 s1 h) 36 [(0, va_rf v0), (1, va_rf v1), (2, .int v2), (3, .int v3), (4, .int v4)] [.int s1, va_rf s0] h := by
  unfold f_Li_look_b36
  refine gk_iconst (pc := 36) (1 : Int32) d_Li_look_36 rfl ?_
  refine gk_goto (pc := 37) 41 d_Li_look_37 rfl ?_
  exact p_Li_look_b41 d b14 q14 v0 v1 v2 v3 v4 s0 s1 (1 : Int32) h
theorem p_Li_look_b14 (d : Nat)  : ∀ (fu : Nat) (v0 : Option Nat) (v1 : Option Nat) (v2 : Int32) (v3 : Int32) (v4 : Int32) (h : gk_H), gk_P gw_V (d + 4) y_Li_look b_Li_look 5 none [] (f_Li_look_b14  fu v0 v1 v2 v3 v4 h) 14 [(0, va_rf v0), (1, va_rf v1), (2, .int v2), (3, .int v3), (4, .int v4)] [] h := by
  intro fu
  induction fu with
  | zero => intros; exact gk_none
  | succ fu q14 =>
    intro v0 v1 v2 v3 v4 h
    rw [f_Li_look_b14]
    refine gk_iload (pc := 14) 4 d_Li_look_14 rfl ?_
    refine gk_iload_n (pc := 16) 3 d_Li_look_16 rfl ?_
    refine gk_icmp_gt (pc := 17) 48 d_Li_look_17 rfl (fun _ => ?_) (fun _ => ?_)
    · refine gk_iconst (pc := 48) (0 : Int32) d_Li_look_48 rfl ?_
      refine gk_istore (pc := 49) (L' := [(4, .int (0 : Int32)), (0, va_rf v0), (1, va_rf v1), (2, .int v2), (3, .int v3)]) d_Li_look_49 (Nat.le_of_ble_eq_true rfl) rfl ?_
      refine gk_weak [1, 2, 4, 0] (L' := [(0, va_rf v0), (1, va_rf v1), (3, .int v3), (4, .int (0 : Int32))]) rfl ?_
      exact p_Li_look_b51 d gk_F v0 v1 v3 (0 : Int32) h
    · refine gk_aload_n (pc := 20) 0 d_Li_look_20 rfl ?_
      refine gk_getR (pc := 21) 3 3 d_Li_look_21 rfl (Nat.le_of_ble_eq_true rfl) tw_247 fun x1 => ?_
      refine gk_iload (pc := 24) 4 d_Li_look_24 rfl ?_
      refine gk_iload_n (pc := 26) 2 d_Li_look_26 rfl ?_
      refine gk_if_ne (pc := 27) 36 d_Li_look_27 rfl (fun _ => ?_) (fun _ => ?_)
      · refine gk_iload (pc := 30) 4 d_Li_look_30 rfl ?_
        refine gk_iload_n (pc := 32) 3 d_Li_look_32 rfl ?_
        refine gk_icmp_ne (pc := 33) 40 d_Li_look_33 rfl (fun _ => ?_) (fun _ => ?_)
        · exact p_Li_look_b36 d (f_Li_look_b14 fu) q14 v0 v1 v2 v3 v4 x1 v4 h
        · refine gk_iconst (pc := 40) (0 : Int32) d_Li_look_40 rfl ?_
          exact p_Li_look_b41 d (f_Li_look_b14 fu) q14 v0 v1 v2 v3 v4 x1 v4 (0 : Int32) h
      · exact p_Li_look_b36 d (f_Li_look_b14 fu) q14 v0 v1 v2 v3 v4 x1 v4 h
theorem w_Li_look (d : Nat) (a0 : Option Nat) (a1 : Option Nat) (a2 : Int32) (h : gk_H) : gk_P gw_V (d + 4) y_Li_look b_Li_look 5 none [] (f_Li_look a0 a1 a2 h) 0 [(0, va_rf a0), (1, va_rf a1), (2, .int a2)] [] h := by
  unfold f_Li_look
  refine gk_aload_n (pc := 0) 1 d_Li_look_0 rfl ?_
  refine gk_callV (pc := 1) (d := (d + 3)) (w' := gv_I) (as := []) (n := 0) 0 d_Li_look_1 rfl rfl rfl rfl (Nat.le_of_ble_eq_true rfl) tw_1153 tw_613 tw_614 tw_94 cw_St_length hy_St_length (Nat.le_of_ble_eq_true rfl) (p_St_length (d + 2) a1 h) fun x1 h1 => ?_
  refine gk_sipush (pc := 4) (255 : Int32) d_Li_look_4 rfl ?_
  refine gk_callS (pc := 7) (d := (d + 3)) (w' := gv_I) (as := [.int x1, .int (255 : Int32)]) (n := 2) d_Li_look_7 rfl rfl (Nat.le_of_ble_eq_true rfl) tw_1188 tw_466 tw_106 cw_Ma_min_II hy_Ma_min_II (Nat.le_of_ble_eq_true rfl) (p_Ma_min_II (d + 3) x1 (255 : Int32) h1) fun x2 h2 => ?_
  refine gk_istore_n (pc := 10) (L' := [(3, .int x2), (0, va_rf a0), (1, va_rf a1), (2, .int a2)]) d_Li_look_10 (Nat.le_of_ble_eq_true rfl) rfl ?_
  refine gk_iconst (pc := 11) (0 : Int32) d_Li_look_11 rfl ?_
  refine gk_istore (pc := 12) (L' := [(4, .int (0 : Int32)), (3, .int x2), (0, va_rf a0), (1, va_rf a1), (2, .int a2)]) d_Li_look_12 (Nat.le_of_ble_eq_true rfl) rfl ?_
  refine gk_weak [2, 3, 4, 1, 0] (L' := [(0, va_rf a0), (1, va_rf a1), (2, .int a2), (3, .int x2), (4, .int (0 : Int32))]) rfl ?_
  exact p_Li_look_b14 d gk_F a0 a1 a2 x2 (0 : Int32) h2
theorem p_Li_look (d : Nat) (a0 : Option Nat) (a1 : Option Nat) (a2 : Int32) (h : gk_H) : ∀ r h1, f_Li_look a0 a1 a2 h = some (r, h1) → gk_M (d + 4) y_Li_look b_Li_look 5 none [va_rf a0, va_rf a1, .int a2] h (.inl (gv_V r)) h1 :=
  fun r h1 e => gk_M_of2 (by decide +kernel) (by simp [lv_args, gk_cat_rf, gk_catI, gk_catJ, gk_catD, gv_V, gv_I, gv_J, gv_D, gv_R]) (by simp [lg_sl, gk_cat_rf, gk_catI, gk_catJ, gk_catD, gv_V, gv_I, gv_J, gv_D, gv_R]) (w_Li_look d a0 a1 a2 h r h1 e)
theorem d_Li_isMetBy_0 : decode b_Li_isMetBy 0 = .ok (.aload_n 0, 1) := by decide +kernel
theorem d_Li_isMetBy_1 : decode b_Li_isMetBy 1 = .ok (.aload_n 1, 1) := by decide +kernel
theorem d_Li_isMetBy_2 : decode b_Li_isMetBy 2 = .ok (.iconst 0, 1) := by decide +kernel
theorem d_Li_isMetBy_3 : decode b_Li_isMetBy 3 = .ok (.invokevirtual 43, 3) := by decide +kernel
theorem d_Li_isMetBy_6 : decode b_Li_isMetBy 6 = .ok (.aload_n 0, 1) := by decide +kernel
theorem d_Li_isMetBy_7 : decode b_Li_isMetBy 7 = .ok (.getfield 19, 3) := by decide +kernel
theorem d_Li_isMetBy_10 : decode b_Li_isMetBy 10 = .ok (.iconst 0, 1) := by decide +kernel
theorem d_Li_isMetBy_11 : decode b_Li_isMetBy 11 = .ok (.baload, 1) := by decide +kernel
theorem d_Li_isMetBy_12 : decode b_Li_isMetBy 12 = .ok (.ireturn, 1) := by decide +kernel
theorem w_Li_isMetBy (d : Nat) (a0 : Option Nat) (a1 : Option Nat) (h : gk_H) : gk_P gw_I (d + 5) y_Li_isMetBy b_Li_isMetBy 2 (some .boolean) [] (f_Li_isMetBy a0 a1 h) 0 [(0, va_rf a0), (1, va_rf a1)] [] h := by
  unfold f_Li_isMetBy
  refine gk_aload_n (pc := 0) 0 d_Li_isMetBy_0 rfl ?_
  refine gk_aload_n (pc := 1) 1 d_Li_isMetBy_1 rfl ?_
  refine gk_iconst (pc := 2) (0 : Int32) d_Li_isMetBy_2 rfl ?_
  refine gk_callV (pc := 3) (d := (d + 4)) (w' := gv_V) (as := [va_rf a1, .int (0 : Int32)]) (n := 2) 3 d_Li_isMetBy_3 rfl rfl rfl rfl (Nat.le_of_ble_eq_true rfl) tw_1184 tw_1186 tw_9 tw_98 cw_Li_look hy_Li_look (Nat.le_of_ble_eq_true rfl) (p_Li_look d a0 a1 (0 : Int32) h) fun _ h1 => ?_
  refine gk_aload_n (pc := 6) 0 d_Li_isMetBy_6 rfl ?_
  refine gk_getR (pc := 7) 3 3 d_Li_isMetBy_7 rfl (Nat.le_of_ble_eq_true rfl) tw_247 fun x1 => ?_
  refine gk_iconst (pc := 10) (0 : Int32) d_Li_isMetBy_10 rfl ?_
  refine gk_zald (pc := 11) d_Li_isMetBy_11 fun x2 => ?_
  exact gk_zret (pc := 12) rfl d_Li_isMetBy_12 rfl
theorem p_Li_isMetBy (d : Nat) (a0 : Option Nat) (a1 : Option Nat) (h : gk_H) : ∀ r h1, f_Li_isMetBy a0 a1 h = some (r, h1) → gk_M (d + 5) y_Li_isMetBy b_Li_isMetBy 2 (some .boolean) [va_rf a0, va_rf a1] h (.inl (gv_I r)) h1 :=
  fun r h1 e => gk_M_of2 (by decide +kernel) (by simp [lv_args, gk_cat_rf, gk_catI, gk_catJ, gk_catD, gv_V, gv_I, gv_J, gv_D, gv_R]) (by simp [lg_sl, gk_cat_rf, gk_catI, gk_catJ, gk_catD, gv_V, gv_I, gv_J, gv_D, gv_R]) (w_Li_isMetBy d a0 a1 h r h1 e)
theorem d_Cr_isMetBy_0 : decode b_Cr_isMetBy 0 = .ok (.aload_n 1, 1) := by decide +kernel
theorem d_Cr_isMetBy_1 : decode b_Cr_isMetBy 1 = .ok (.getfield 60, 3) := by decide +kernel
theorem d_Cr_isMetBy_4 : decode b_Cr_isMetBy 4 = .ok (.iconst 4, 1) := by decide +kernel
theorem d_Cr_isMetBy_5 : decode b_Cr_isMetBy 5 = .ok (.if_icmp .eq 14, 3) := by decide +kernel
theorem d_Cr_isMetBy_8 : decode b_Cr_isMetBy 8 = .ok (.aload_n 0, 1) := by decide +kernel
theorem d_Cr_isMetBy_9 : decode b_Cr_isMetBy 9 = .ok (.getfield 13, 3) := by decide +kernel
theorem d_Cr_isMetBy_12 : decode b_Cr_isMetBy 12 = .ok (.getfield 60, 3) := by decide +kernel
theorem d_Cr_isMetBy_15 : decode b_Cr_isMetBy 15 = .ok (.iconst 4, 1) := by decide +kernel
theorem d_Cr_isMetBy_16 : decode b_Cr_isMetBy 16 = .ok (.if_icmp .ne 5, 3) := by decide +kernel
theorem d_Cr_isMetBy_19 : decode b_Cr_isMetBy 19 = .ok (.iconst 0, 1) := by decide +kernel
theorem d_Cr_isMetBy_20 : decode b_Cr_isMetBy 20 = .ok (.ireturn, 1) := by decide +kernel
theorem d_Cr_isMetBy_21 : decode b_Cr_isMetBy 21 = .ok (.aload_n 0, 1) := by decide +kernel
theorem d_Cr_isMetBy_22 : decode b_Cr_isMetBy 22 = .ok (.getfield 13, 3) := by decide +kernel
theorem d_Cr_isMetBy_25 : decode b_Cr_isMetBy 25 = .ok (.getfield 60, 3) := by decide +kernel
theorem d_Cr_isMetBy_28 : decode b_Cr_isMetBy 28 = .ok (.iconst 2, 1) := by decide +kernel
theorem d_Cr_isMetBy_29 : decode b_Cr_isMetBy 29 = .ok (.if_icmp .ne 25, 3) := by decide +kernel
theorem d_Cr_isMetBy_32 : decode b_Cr_isMetBy 32 = .ok (.aload_n 0, 1) := by decide +kernel
theorem d_Cr_isMetBy_33 : decode b_Cr_isMetBy 33 = .ok (.getfield 7, 3) := by decide +kernel
theorem d_Cr_isMetBy_36 : decode b_Cr_isMetBy 36 = .ok (.bipush 8, 2) := by decide +kernel
theorem d_Cr_isMetBy_38 : decode b_Cr_isMetBy 38 = .ok (.if_icmp .eq 12, 3) := by decide +kernel
theorem d_Cr_isMetBy_41 : decode b_Cr_isMetBy 41 = .ok (.aload_n 0, 1) := by decide +kernel
theorem d_Cr_isMetBy_42 : decode b_Cr_isMetBy 42 = .ok (.getfield 7, 3) := by decide +kernel
theorem d_Cr_isMetBy_45 : decode b_Cr_isMetBy 45 = .ok (.bipush 9, 2) := by decide +kernel
theorem d_Cr_isMetBy_47 : decode b_Cr_isMetBy 47 = .ok (.if_icmp .ne 7, 3) := by decide +kernel
theorem d_Cr_isMetBy_50 : decode b_Cr_isMetBy 50 = .ok (.iconst 1, 1) := by decide +kernel
theorem d_Cr_isMetBy_51 : decode b_Cr_isMetBy 51 = .ok (.goto 4, 3) := by decide +kernel
theorem d_Cr_isMetBy_54 : decode b_Cr_isMetBy 54 = .ok (.iconst 0, 1) := by decide +kernel
theorem d_Cr_isMetBy_55 : decode b_Cr_isMetBy 55 = .ok (.istore_n 2, 1) := by decide +kernel
theorem d_Cr_isMetBy_56 : decode b_Cr_isMetBy 56 = .ok (.aload_n 1, 1) := by decide +kernel
theorem d_Cr_isMetBy_57 : decode b_Cr_isMetBy 57 = .ok (.getfield 60, 3) := by decide +kernel
theorem d_Cr_isMetBy_60 : decode b_Cr_isMetBy 60 = .ok (.aload_n 0, 1) := by decide +kernel
theorem d_Cr_isMetBy_61 : decode b_Cr_isMetBy 61 = .ok (.getfield 13, 3) := by decide +kernel
theorem d_Cr_isMetBy_64 : decode b_Cr_isMetBy 64 = .ok (.getfield 60, 3) := by decide +kernel
theorem d_Cr_isMetBy_67 : decode b_Cr_isMetBy 67 = .ok (.if_icmp .eq 30, 3) := by decide +kernel
theorem d_Cr_isMetBy_70 : decode b_Cr_isMetBy 70 = .ok (.aload_n 0, 1) := by decide +kernel
theorem d_Cr_isMetBy_71 : decode b_Cr_isMetBy 71 = .ok (.getfield 7, 3) := by decide +kernel
theorem d_Cr_isMetBy_74 : decode b_Cr_isMetBy 74 = .ok (.bipush 9, 2) := by decide +kernel
theorem d_Cr_isMetBy_76 : decode b_Cr_isMetBy 76 = .ok (.if_icmp .eq 15, 3) := by decide +kernel
theorem d_Cr_isMetBy_79 : decode b_Cr_isMetBy 79 = .ok (.iload_n 2, 1) := by decide +kernel
theorem d_Cr_isMetBy_80 : decode b_Cr_isMetBy 80 = .ok (.ifCond .eq 15, 3) := by decide +kernel
theorem d_Cr_isMetBy_83 : decode b_Cr_isMetBy 83 = .ok (.aload_n 0, 1) := by decide +kernel
theorem d_Cr_isMetBy_84 : decode b_Cr_isMetBy 84 = .ok (.aload_n 1, 1) := by decide +kernel
theorem d_Cr_isMetBy_85 : decode b_Cr_isMetBy 85 = .ok (.invokevirtual 88, 3) := by decide +kernel
theorem d_Cr_isMetBy_88 : decode b_Cr_isMetBy 88 = .ok (.ifCond .eq 7, 3) := by decide +kernel
theorem d_Cr_isMetBy_91 : decode b_Cr_isMetBy 91 = .ok (.iconst 1, 1) := by decide +kernel
theorem d_Cr_isMetBy_92 : decode b_Cr_isMetBy 92 = .ok (.goto 4, 3) := by decide +kernel
theorem d_Cr_isMetBy_95 : decode b_Cr_isMetBy 95 = .ok (.iconst 0, 1) := by decide +kernel
theorem d_Cr_isMetBy_96 : decode b_Cr_isMetBy 96 = .ok (.ireturn, 1) := by decide +kernel
theorem d_Cr_isMetBy_97 : decode b_Cr_isMetBy 97 = .ok (.iload_n 2, 1) := by decide +kernel
theorem d_Cr_isMetBy_98 : decode b_Cr_isMetBy 98 = .ok (.ifCond .eq 37, 3) := by decide +kernel
theorem d_Cr_isMetBy_101 : decode b_Cr_isMetBy 101 = .ok (.aload_n 0, 1) := by decide +kernel
theorem d_Cr_isMetBy_102 : decode b_Cr_isMetBy 102 = .ok (.getfield 17, 3) := by decide +kernel
theorem d_Cr_isMetBy_105 : decode b_Cr_isMetBy 105 = .ok (.aload_n 1, 1) := by decide +kernel
theorem d_Cr_isMetBy_106 : decode b_Cr_isMetBy 106 = .ok (.getfield 25, 3) := by decide +kernel
theorem d_Cr_isMetBy_109 : decode b_Cr_isMetBy 109 = .ok (.invokevirtual 92, 3) := by decide +kernel
theorem d_Cr_isMetBy_112 : decode b_Cr_isMetBy 112 = .ok (.aload_n 0, 1) := by decide +kernel
theorem d_Cr_isMetBy_113 : decode b_Cr_isMetBy 113 = .ok (.getfield 7, 3) := by decide +kernel
theorem d_Cr_isMetBy_116 : decode b_Cr_isMetBy 116 = .ok (.bipush 8, 2) := by decide +kernel
theorem d_Cr_isMetBy_118 : decode b_Cr_isMetBy 118 = .ok (.if_icmp .ne 7, 3) := by decide +kernel
theorem d_Cr_isMetBy_121 : decode b_Cr_isMetBy 121 = .ok (.iconst 1, 1) := by decide +kernel
theorem d_Cr_isMetBy_122 : decode b_Cr_isMetBy 122 = .ok (.goto 4, 3) := by decide +kernel
theorem d_Cr_isMetBy_125 : decode b_Cr_isMetBy 125 = .ok (.iconst 0, 1) := by decide +kernel
theorem d_Cr_isMetBy_126 : decode b_Cr_isMetBy 126 = .ok (.if_icmp .ne 7, 3) := by decide +kernel
theorem d_Cr_isMetBy_129 : decode b_Cr_isMetBy 129 = .ok (.iconst 1, 1) := by decide +kernel
theorem d_Cr_isMetBy_130 : decode b_Cr_isMetBy 130 = .ok (.goto 4, 3) := by decide +kernel
theorem d_Cr_isMetBy_133 : decode b_Cr_isMetBy 133 = .ok (.iconst 0, 1) := by decide +kernel
theorem d_Cr_isMetBy_134 : decode b_Cr_isMetBy 134 = .ok (.ireturn, 1) := by decide +kernel
theorem d_Cr_isMetBy_135 : decode b_Cr_isMetBy 135 = .ok (.aload_n 0, 1) := by decide +kernel
theorem d_Cr_isMetBy_136 : decode b_Cr_isMetBy 136 = .ok (.getfield 7, 3) := by decide +kernel
theorem d_Cr_isMetBy_139 : decode b_Cr_isMetBy 139 = .ok (.aload_n 1, 1) := by decide +kernel
theorem d_Cr_isMetBy_140 : decode b_Cr_isMetBy 140 = .ok (.aload_n 0, 1) := by decide +kernel
theorem d_Cr_isMetBy_141 : decode b_Cr_isMetBy 141 = .ok (.getfield 13, 3) := by decide +kernel
theorem d_Cr_isMetBy_144 : decode b_Cr_isMetBy 144 = .ok (.invokestatic 95, 3) := by decide +kernel
theorem d_Cr_isMetBy_147 : decode b_Cr_isMetBy 147 = .ok (.invokestatic 99, 3) := by decide +kernel
theorem d_Cr_isMetBy_150 : decode b_Cr_isMetBy 150 = .ok (.ireturn, 1) := by decide +kernel
theorem p_Cr_isMetBy_b19 (d : Nat)   (h : gk_H) : gk_P gw_I (d + 6) y_Cr_isMetBy b_Cr_isMetBy 3 (some .boolean) [] (f_Cr_isMetBy_b19   h) 19 [] [] h := by
  unfold f_Cr_isMetBy_b19
  refine gk_iconst (pc := 19) (0 : Int32) d_Cr_isMetBy_19 rfl ?_
  exact gk_zret (pc := 20) rfl d_Cr_isMetBy_20 rfl
theorem p_Cr_isMetBy_b134 (d : Nat)  (s0 : Int32) (h : gk_H) : gk_P gw_I (d + 6) y_Cr_isMetBy b_Cr_isMetBy 3 (some .boolean) [] (f_Cr_isMetBy_b134  s0 h) 134 [] [.int s0] h := by
  unfold f_Cr_isMetBy_b134
  exact gk_zret (pc := 134) rfl d_Cr_isMetBy_134 rfl
theorem p_Cr_isMetBy_b126 (d : Nat)  (s0 : Int32) (s1 : Int32) (h : gk_H) : gk_P gw_I (d + 6) y_Cr_isMetBy b_Cr_isMetBy 3 (some .boolean) [] (f_Cr_isMetBy_b126  s0 s1 h) 126 [] [.int s1, .int s0] h := by
  unfold f_Cr_isMetBy_b126
  refine gk_icmp_ne (pc := 126) 133 d_Cr_isMetBy_126 rfl (fun _ => ?_) (fun _ => ?_)
  · refine gk_iconst (pc := 129) (1 : Int32) d_Cr_isMetBy_129 rfl ?_
    refine gk_goto (pc := 130) 134 d_Cr_isMetBy_130 rfl ?_
    exact p_Cr_isMetBy_b134 d (1 : Int32) h
  · refine gk_iconst (pc := 133) (0 : Int32) d_Cr_isMetBy_133 rfl ?_
    exact p_Cr_isMetBy_b134 d (0 : Int32) h
theorem p_Cr_isMetBy_b96 (d : Nat)  (s0 : Int32) (h : gk_H) : gk_P gw_I (d + 6) y_Cr_isMetBy b_Cr_isMetBy 3 (some .boolean) [] (f_Cr_isMetBy_b96  s0 h) 96 [] [.int s0] h := by
  unfold f_Cr_isMetBy_b96
  exact gk_zret (pc := 96) rfl d_Cr_isMetBy_96 rfl
theorem p_Cr_isMetBy_b91 (d : Nat)   (h : gk_H) : gk_P gw_I (d + 6) y_Cr_isMetBy b_Cr_isMetBy 3 (some .boolean) [] (f_Cr_isMetBy_b91   h) 91 [] [] h := by
  unfold f_Cr_isMetBy_b91
  refine gk_iconst (pc := 91) (1 : Int32) d_Cr_isMetBy_91 rfl ?_
  refine gk_goto (pc := 92) 96 d_Cr_isMetBy_92 rfl ?_
  exact p_Cr_isMetBy_b96 d (1 : Int32) h
theorem p_Cr_isMetBy_b95 (d : Nat)   (h : gk_H) : gk_P gw_I (d + 6) y_Cr_isMetBy b_Cr_isMetBy 3 (some .boolean) [] (f_Cr_isMetBy_b95   h) 95 [] [] h := by
  unfold f_Cr_isMetBy_b95
  refine gk_iconst (pc := 95) (0 : Int32) d_Cr_isMetBy_95 rfl ?_
  exact p_Cr_isMetBy_b96 d (0 : Int32) h
theorem p_Cr_isMetBy_b55 (d : Nat)  (v0 : Option Nat) (v1 : Option Nat) (s0 : Int32) (h : gk_H) : gk_P gw_I (d + 6) y_Cr_isMetBy b_Cr_isMetBy 3 (some .boolean) [] (f_Cr_isMetBy_b55  v0 v1 s0 h) 55 [(0, va_rf v0), (1, va_rf v1)] [.int s0] h := by
  unfold f_Cr_isMetBy_b55
  refine gk_istore_n (pc := 55) (L' := [(2, .int s0), (0, va_rf v0), (1, va_rf v1)]) d_Cr_isMetBy_55 (Nat.le_of_ble_eq_true rfl) (by simp [gk_s1, gk_s2, gk_cat_rf, gk_catI, gk_catJ, gk_catD] <;> decide) ?_
  refine gk_aload_n (pc := 56) 2 d_Cr_isMetBy_56 rfl ?_
  refine gk_getI (pc := 57) 2 0 d_Cr_isMetBy_57 rfl (Nat.le_of_ble_eq_true rfl) tw_186 fun x1 => ?_
  refine gk_aload_n (pc := 60) 1 d_Cr_isMetBy_60 rfl ?_
  refine gk_getR (pc := 61) 6 1 d_Cr_isMetBy_61 rfl (Nat.le_of_ble_eq_true rfl) tw_1163 fun x2 => ?_
  refine gk_getI (pc := 64) 2 0 d_Cr_isMetBy_64 rfl (Nat.le_of_ble_eq_true rfl) tw_186 fun x3 => ?_
  refine gk_icmp_eq (pc := 67) 97 d_Cr_isMetBy_67 rfl (fun _ => ?_) (fun _ => ?_)
  · refine gk_iload_n (pc := 97) 0 d_Cr_isMetBy_97 rfl ?_
    refine gk_if_eq (pc := 98) 135 d_Cr_isMetBy_98 rfl (fun _ => ?_) (fun _ => ?_)
    · refine gk_aload_n (pc := 135) 1 d_Cr_isMetBy_135 rfl ?_
      refine gk_getI (pc := 136) 6 0 d_Cr_isMetBy_136 rfl (Nat.le_of_ble_eq_true rfl) tw_1162 fun x4 => ?_
      refine gk_aload_n (pc := 139) 2 d_Cr_isMetBy_139 rfl ?_
      refine gk_aload_n (pc := 140) 1 d_Cr_isMetBy_140 rfl ?_
      refine gk_getR (pc := 141) 6 1 d_Cr_isMetBy_141 rfl (Nat.le_of_ble_eq_true rfl) tw_1163 fun x5 => ?_
      refine gk_callS (pc := 144) (d := (d + 5)) (w' := gv_I) (as := [va_rf v1, va_rf x5]) (n := 2) d_Cr_isMetBy_144 rfl rfl (Nat.le_of_ble_eq_true rfl) tw_1197 tw_974 tw_115 cw_Op_order hy_Op_order (Nat.le_of_ble_eq_true rfl) (p_Op_order d v1 x5 h) fun x6 h1 => ?_
      refine gk_callS (pc := 147) (d := (d + 5)) (w' := gv_I) (as := [.int x4, .int x6]) (n := 2) d_Cr_isMetBy_147 rfl rfl (Nat.le_of_ble_eq_true rfl) tw_1198 tw_984 tw_115 cw_Op_stands hy_Op_stands (Nat.le_of_ble_eq_true rfl) (p_Op_stands (d + 5) x4 x6 h1) fun x7 h2 => ?_
      exact gk_zret (pc := 150) rfl d_Cr_isMetBy_150 rfl
    · refine gk_aload_n (pc := 101) 1 d_Cr_isMetBy_101 rfl ?_
      refine gk_getR (pc := 102) 6 2 d_Cr_isMetBy_102 rfl (Nat.le_of_ble_eq_true rfl) tw_1164 fun x8 => ?_
      refine gk_aload_n (pc := 105) 2 d_Cr_isMetBy_105 rfl ?_
      refine gk_getR (pc := 106) 2 3 d_Cr_isMetBy_106 rfl (Nat.le_of_ble_eq_true rfl) tw_205 fun x9 => ?_
      refine gk_callV (pc := 109) (d := (d + 5)) (w' := gv_I) (as := [va_rf x9]) (n := 1) 3 d_Cr_isMetBy_109 rfl rfl rfl rfl (Nat.le_of_ble_eq_true rfl) tw_1180 tw_1181 tw_1182 tw_98 cw_Li_isMetBy hy_Li_isMetBy (Nat.le_of_ble_eq_true rfl) (p_Li_isMetBy d x8 x9 h) fun x10 h3 => ?_
      refine gk_aload_n (pc := 112) 1 d_Cr_isMetBy_112 rfl ?_
      refine gk_getI (pc := 113) 6 0 d_Cr_isMetBy_113 rfl (Nat.le_of_ble_eq_true rfl) tw_1162 fun x11 => ?_
      refine gk_bipush (pc := 116) (8 : Int32) d_Cr_isMetBy_116 rfl ?_
      refine gk_icmp_ne (pc := 118) 125 d_Cr_isMetBy_118 rfl (fun _ => ?_) (fun _ => ?_)
      · refine gk_iconst (pc := 121) (1 : Int32) d_Cr_isMetBy_121 rfl ?_
        refine gk_goto (pc := 122) 126 d_Cr_isMetBy_122 rfl ?_
        refine gk_weak [] (L' := []) rfl ?_
        exact p_Cr_isMetBy_b126 d x10 (1 : Int32) h3
      · refine gk_iconst (pc := 125) (0 : Int32) d_Cr_isMetBy_125 rfl ?_
        refine gk_weak [] (L' := []) rfl ?_
        exact p_Cr_isMetBy_b126 d x10 (0 : Int32) h3
  · refine gk_aload_n (pc := 70) 1 d_Cr_isMetBy_70 rfl ?_
    refine gk_getI (pc := 71) 6 0 d_Cr_isMetBy_71 rfl (Nat.le_of_ble_eq_true rfl) tw_1162 fun x12 => ?_
    refine gk_bipush (pc := 74) (9 : Int32) d_Cr_isMetBy_74 rfl ?_
    refine gk_icmp_eq (pc := 76) 91 d_Cr_isMetBy_76 rfl (fun _ => ?_) (fun _ => ?_)
    · refine gk_weak [] (L' := []) rfl ?_
      exact p_Cr_isMetBy_b91 d h
    · refine gk_iload_n (pc := 79) 0 d_Cr_isMetBy_79 rfl ?_
      refine gk_if_eq (pc := 80) 95 d_Cr_isMetBy_80 rfl (fun _ => ?_) (fun _ => ?_)
      · refine gk_weak [] (L' := []) rfl ?_
        exact p_Cr_isMetBy_b95 d h
      · refine gk_aload_n (pc := 83) 1 d_Cr_isMetBy_83 rfl ?_
        refine gk_aload_n (pc := 84) 2 d_Cr_isMetBy_84 rfl ?_
        refine gk_callV (pc := 85) (d := (d + 5)) (w' := gv_I) (as := [va_rf v1]) (n := 1) 6 d_Cr_isMetBy_85 rfl rfl rfl rfl (Nat.le_of_ble_eq_true rfl) tw_1176 tw_1178 tw_8 tw_120 cw_Cr_isBothEmpty hy_Cr_isBothEmpty (Nat.le_of_ble_eq_true rfl) (p_Cr_isBothEmpty (d + 4) v0 v1 h) fun x13 h4 => ?_
        refine gk_if_eq (pc := 88) 95 d_Cr_isMetBy_88 rfl (fun _ => ?_) (fun _ => ?_)
        · refine gk_weak [] (L' := []) rfl ?_
          exact p_Cr_isMetBy_b95 d h4
        · refine gk_weak [] (L' := []) rfl ?_
          exact p_Cr_isMetBy_b91 d h4
theorem p_Cr_isMetBy_b54 (d : Nat)  (v0 : Option Nat) (v1 : Option Nat) (h : gk_H) : gk_P gw_I (d + 6) y_Cr_isMetBy b_Cr_isMetBy 3 (some .boolean) [] (f_Cr_isMetBy_b54  v0 v1 h) 54 [(0, va_rf v0), (1, va_rf v1)] [] h := by
  unfold f_Cr_isMetBy_b54
  refine gk_iconst (pc := 54) (0 : Int32) d_Cr_isMetBy_54 rfl ?_
  exact p_Cr_isMetBy_b55 d v0 v1 (0 : Int32) h
theorem p_Cr_isMetBy_b50 (d : Nat)  (v0 : Option Nat) (v1 : Option Nat) (h : gk_H) : gk_P gw_I (d + 6) y_Cr_isMetBy b_Cr_isMetBy 3 (some .boolean) [] (f_Cr_isMetBy_b50  v0 v1 h) 50 [(0, va_rf v0), (1, va_rf v1)] [] h := by
  unfold f_Cr_isMetBy_b50
  refine gk_iconst (pc := 50) (1 : Int32) d_Cr_isMetBy_50 rfl ?_
  refine gk_goto (pc := 51) 55 d_Cr_isMetBy_51 rfl ?_
  exact p_Cr_isMetBy_b55 d v0 v1 (1 : Int32) h
theorem w_Cr_isMetBy (d : Nat) (a0 : Option Nat) (a1 : Option Nat) (h : gk_H) : gk_P gw_I (d + 6) y_Cr_isMetBy b_Cr_isMetBy 3 (some .boolean) [] (f_Cr_isMetBy a0 a1 h) 0 [(0, va_rf a0), (1, va_rf a1)] [] h := by
  unfold f_Cr_isMetBy
  refine gk_aload_n (pc := 0) 1 d_Cr_isMetBy_0 rfl ?_
  refine gk_getI (pc := 1) 2 0 d_Cr_isMetBy_1 rfl (Nat.le_of_ble_eq_true rfl) tw_186 fun x1 => ?_
  refine gk_iconst (pc := 4) (4 : Int32) d_Cr_isMetBy_4 rfl ?_
  refine gk_icmp_eq (pc := 5) 19 d_Cr_isMetBy_5 rfl (fun _ => ?_) (fun _ => ?_)
  · refine gk_weak [] (L' := []) rfl ?_
    exact p_Cr_isMetBy_b19 d h
  · refine gk_aload_n (pc := 8) 0 d_Cr_isMetBy_8 rfl ?_
    refine gk_getR (pc := 9) 6 1 d_Cr_isMetBy_9 rfl (Nat.le_of_ble_eq_true rfl) tw_1163 fun x2 => ?_
    refine gk_getI (pc := 12) 2 0 d_Cr_isMetBy_12 rfl (Nat.le_of_ble_eq_true rfl) tw_186 fun x3 => ?_
    refine gk_iconst (pc := 15) (4 : Int32) d_Cr_isMetBy_15 rfl ?_
    refine gk_icmp_ne (pc := 16) 21 d_Cr_isMetBy_16 rfl (fun _ => ?_) (fun _ => ?_)
    · refine gk_weak [] (L' := []) rfl ?_
      exact p_Cr_isMetBy_b19 d h
    · refine gk_aload_n (pc := 21) 0 d_Cr_isMetBy_21 rfl ?_
      refine gk_getR (pc := 22) 6 1 d_Cr_isMetBy_22 rfl (Nat.le_of_ble_eq_true rfl) tw_1163 fun x4 => ?_
      refine gk_getI (pc := 25) 2 0 d_Cr_isMetBy_25 rfl (Nat.le_of_ble_eq_true rfl) tw_186 fun x5 => ?_
      refine gk_iconst (pc := 28) (2 : Int32) d_Cr_isMetBy_28 rfl ?_
      refine gk_icmp_ne (pc := 29) 54 d_Cr_isMetBy_29 rfl (fun _ => ?_) (fun _ => ?_)
      · refine gk_aload_n (pc := 32) 0 d_Cr_isMetBy_32 rfl ?_
        refine gk_getI (pc := 33) 6 0 d_Cr_isMetBy_33 rfl (Nat.le_of_ble_eq_true rfl) tw_1162 fun x6 => ?_
        refine gk_bipush (pc := 36) (8 : Int32) d_Cr_isMetBy_36 rfl ?_
        refine gk_icmp_eq (pc := 38) 50 d_Cr_isMetBy_38 rfl (fun _ => ?_) (fun _ => ?_)
        · exact p_Cr_isMetBy_b50 d a0 a1 h
        · refine gk_aload_n (pc := 41) 0 d_Cr_isMetBy_41 rfl ?_
          refine gk_getI (pc := 42) 6 0 d_Cr_isMetBy_42 rfl (Nat.le_of_ble_eq_true rfl) tw_1162 fun x7 => ?_
          refine gk_bipush (pc := 45) (9 : Int32) d_Cr_isMetBy_45 rfl ?_
          refine gk_icmp_ne (pc := 47) 54 d_Cr_isMetBy_47 rfl (fun _ => ?_) (fun _ => ?_)
          · exact p_Cr_isMetBy_b50 d a0 a1 h
          · exact p_Cr_isMetBy_b54 d a0 a1 h
      · exact p_Cr_isMetBy_b54 d a0 a1 h
theorem p_Cr_isMetBy (d : Nat) (a0 : Option Nat) (a1 : Option Nat) (h : gk_H) : ∀ r h1, f_Cr_isMetBy a0 a1 h = some (r, h1) → gk_M (d + 6) y_Cr_isMetBy b_Cr_isMetBy 3 (some .boolean) [va_rf a0, va_rf a1] h (.inl (gv_I r)) h1 :=
  fun r h1 e => gk_M_of2 (by decide +kernel) (by simp [lv_args, gk_cat_rf, gk_catI, gk_catJ, gk_catD, gv_V, gv_I, gv_J, gv_D, gv_R]) (by simp [lg_sl, gk_cat_rf, gk_catI, gk_catJ, gk_catD, gv_V, gv_I, gv_J, gv_D, gv_R]) (w_Cr_isMetBy d a0 a1 h r h1 e)
theorem d_Su_ofThoseMeeting_0 : decode b_Su_ofThoseMeeting 0 = .ok (.aload_n 1, 1) := by decide +kernel
theorem d_Su_ofThoseMeeting_1 : decode b_Su_ofThoseMeeting 1 = .ok (.iconst 0, 1) := by decide +kernel
theorem d_Su_ofThoseMeeting_2 : decode b_Su_ofThoseMeeting 2 = .ok (.invokevirtual 96, 3) := by decide +kernel
theorem d_Su_ofThoseMeeting_5 : decode b_Su_ofThoseMeeting 5 = .ok (.astore_n 2, 1) := by decide +kernel
theorem d_Su_ofThoseMeeting_6 : decode b_Su_ofThoseMeeting 6 = .ok (.aload_n 1, 1) := by decide +kernel
theorem d_Su_ofThoseMeeting_7 : decode b_Su_ofThoseMeeting 7 = .ok (.iconst 1, 1) := by decide +kernel
theorem d_Su_ofThoseMeeting_8 : decode b_Su_ofThoseMeeting 8 = .ok (.invokevirtual 146, 3) := by decide +kernel
theorem d_Su_ofThoseMeeting_11 : decode b_Su_ofThoseMeeting 11 = .ok (.aload_n 1, 1) := by decide +kernel
theorem d_Su_ofThoseMeeting_12 : decode b_Su_ofThoseMeeting 12 = .ok (.getfield 149, 3) := by decide +kernel
theorem d_Su_ofThoseMeeting_15 : decode b_Su_ofThoseMeeting 15 = .ok (.invokestatic 153, 3) := by decide +kernel
theorem d_Su_ofThoseMeeting_18 : decode b_Su_ofThoseMeeting 18 = .ok (.astore_n 3, 1) := by decide +kernel
theorem d_Su_ofThoseMeeting_19 : decode b_Su_ofThoseMeeting 19 = .ok (.aload_n 1, 1) := by decide +kernel
theorem d_Su_ofThoseMeeting_20 : decode b_Su_ofThoseMeeting 20 = .ok (.invokevirtual 93, 3) := by decide +kernel
theorem d_Su_ofThoseMeeting_23 : decode b_Su_ofThoseMeeting 23 = .ok (.iconst 2, 1) := by decide +kernel
theorem d_Su_ofThoseMeeting_24 : decode b_Su_ofThoseMeeting 24 = .ok (.if_icmp .le 11, 3) := by decide +kernel
theorem d_Su_ofThoseMeeting_27 : decode b_Su_ofThoseMeeting 27 = .ok (.aload_n 1, 1) := by decide +kernel
theorem d_Su_ofThoseMeeting_28 : decode b_Su_ofThoseMeeting 28 = .ok (.iconst 2, 1) := by decide +kernel
theorem d_Su_ofThoseMeeting_29 : decode b_Su_ofThoseMeeting 29 = .ok (.invokevirtual 96, 3) := by decide +kernel
theorem d_Su_ofThoseMeeting_32 : decode b_Su_ofThoseMeeting 32 = .ok (.goto 4, 3) := by decide +kernel
theorem d_Su_ofThoseMeeting_35 : decode b_Su_ofThoseMeeting 35 = .ok (.aload_n 2, 1) := by decide +kernel
theorem d_Su_ofThoseMeeting_36 : decode b_Su_ofThoseMeeting 36 = .ok (.astore 4, 2) := by decide +kernel
theorem d_Su_ofThoseMeeting_38 : decode b_Su_ofThoseMeeting 38 = .ok (.aload 4, 2) := by decide +kernel
theorem d_Su_ofThoseMeeting_40 : decode b_Su_ofThoseMeeting 40 = .ok (.aload_n 2, 1) := by decide +kernel
theorem d_Su_ofThoseMeeting_41 : decode b_Su_ofThoseMeeting 41 = .ok (.invokevirtual 138, 3) := by decide +kernel
theorem d_Su_ofThoseMeeting_44 : decode b_Su_ofThoseMeeting 44 = .ok (.ifCond .ne 8, 3) := by decide +kernel
theorem d_Su_ofThoseMeeting_47 : decode b_Su_ofThoseMeeting 47 = .ok (.iconst 3, 1) := by decide +kernel
theorem d_Su_ofThoseMeeting_48 : decode b_Su_ofThoseMeeting 48 = .ok (.invokestatic 69, 3) := by decide +kernel
theorem d_Su_ofThoseMeeting_51 : decode b_Su_ofThoseMeeting 51 = .ok (.areturn, 1) := by decide +kernel
theorem d_Su_ofThoseMeeting_52 : decode b_Su_ofThoseMeeting 52 = .ok (.iconst 0, 1) := by decide +kernel
theorem d_Su_ofThoseMeeting_53 : decode b_Su_ofThoseMeeting 53 = .ok (.istore 5, 2) := by decide +kernel
theorem d_Su_ofThoseMeeting_55 : decode b_Su_ofThoseMeeting 55 = .ok (.iconst 0, 1) := by decide +kernel
theorem d_Su_ofThoseMeeting_56 : decode b_Su_ofThoseMeeting 56 = .ok (.istore 6, 2) := by decide +kernel
theorem d_Su_ofThoseMeeting_58 : decode b_Su_ofThoseMeeting 58 = .ok (.dconst 0, 1) := by decide +kernel
theorem d_Su_ofThoseMeeting_59 : decode b_Su_ofThoseMeeting 59 = .ok (.dstore 7, 2) := by decide +kernel
theorem d_Su_ofThoseMeeting_61 : decode b_Su_ofThoseMeeting 61 = .ok (.iconst 0, 1) := by decide +kernel
theorem d_Su_ofThoseMeeting_62 : decode b_Su_ofThoseMeeting 62 = .ok (.istore 9, 2) := by decide +kernel
theorem d_Su_ofThoseMeeting_64 : decode b_Su_ofThoseMeeting 64 = .ok (.iload 9, 2) := by decide +kernel
theorem d_Su_ofThoseMeeting_66 : decode b_Su_ofThoseMeeting 66 = .ok (.aload_n 2, 1) := by decide +kernel
theorem d_Su_ofThoseMeeting_67 : decode b_Su_ofThoseMeeting 67 = .ok (.invokevirtual 99, 3) := by decide +kernel
theorem d_Su_ofThoseMeeting_70 : decode b_Su_ofThoseMeeting 70 = .ok (.if_icmp .ge 82, 3) := by decide +kernel
theorem d_Su_ofThoseMeeting_73 : decode b_Su_ofThoseMeeting 73 = .ok (.dload 7, 2) := by decide +kernel
theorem d_Su_ofThoseMeeting_75 : decode b_Su_ofThoseMeeting 75 = .ok (.invokestatic 73, 3) := by decide +kernel
theorem d_Su_ofThoseMeeting_78 : decode b_Su_ofThoseMeeting 78 = .ok (.ifCond .eq 74, 3) := by decide +kernel
theorem d_Su_ofThoseMeeting_81 : decode b_Su_ofThoseMeeting 81 = .ok (.aload_n 3, 1) := by decide +kernel
theorem d_Su_ofThoseMeeting_82 : decode b_Su_ofThoseMeeting 82 = .ok (.aload_n 2, 1) := by decide +kernel
theorem d_Su_ofThoseMeeting_83 : decode b_Su_ofThoseMeeting 83 = .ok (.iload 9, 2) := by decide +kernel
theorem d_Su_ofThoseMeeting_85 : decode b_Su_ofThoseMeeting 85 = .ok (.invokevirtual 102, 3) := by decide +kernel
theorem d_Su_ofThoseMeeting_88 : decode b_Su_ofThoseMeeting 88 = .ok (.invokevirtual 159, 3) := by decide +kernel
theorem d_Su_ofThoseMeeting_91 : decode b_Su_ofThoseMeeting 91 = .ok (.ifCond .eq 55, 3) := by decide +kernel
theorem d_Su_ofThoseMeeting_94 : decode b_Su_ofThoseMeeting 94 = .ok (.iinc 5 1, 3) := by decide +kernel
theorem d_Su_ofThoseMeeting_97 : decode b_Su_ofThoseMeeting 97 = .ok (.iload 6, 2) := by decide +kernel
theorem d_Su_ofThoseMeeting_99 : decode b_Su_ofThoseMeeting 99 = .ok (.aload 4, 2) := by decide +kernel
theorem d_Su_ofThoseMeeting_101 : decode b_Su_ofThoseMeeting 101 = .ok (.iload 9, 2) := by decide +kernel
theorem d_Su_ofThoseMeeting_103 : decode b_Su_ofThoseMeeting 103 = .ok (.invokevirtual 102, 3) := by decide +kernel
theorem d_Su_ofThoseMeeting_106 : decode b_Su_ofThoseMeeting 106 = .ok (.getfield 85, 3) := by decide +kernel
theorem d_Su_ofThoseMeeting_109 : decode b_Su_ofThoseMeeting 109 = .ok (.iconst 1, 1) := by decide +kernel
theorem d_Su_ofThoseMeeting_110 : decode b_Su_ofThoseMeeting 110 = .ok (.if_icmp .ne 7, 3) := by decide +kernel
theorem d_Su_ofThoseMeeting_113 : decode b_Su_ofThoseMeeting 113 = .ok (.iconst 1, 1) := by decide +kernel
theorem d_Su_ofThoseMeeting_114 : decode b_Su_ofThoseMeeting 114 = .ok (.goto 4, 3) := by decide +kernel
theorem d_Su_ofThoseMeeting_117 : decode b_Su_ofThoseMeeting 117 = .ok (.iconst 0, 1) := by decide +kernel
theorem d_Su_ofThoseMeeting_118 : decode b_Su_ofThoseMeeting 118 = .ok (.iadd, 1) := by decide +kernel
theorem d_Su_ofThoseMeeting_119 : decode b_Su_ofThoseMeeting 119 = .ok (.istore 6, 2) := by decide +kernel
theorem d_Su_ofThoseMeeting_121 : decode b_Su_ofThoseMeeting 121 = .ok (.dload 7, 2) := by decide +kernel
theorem d_Su_ofThoseMeeting_123 : decode b_Su_ofThoseMeeting 123 = .ok (.iload_n 0, 1) := by decide +kernel
theorem d_Su_ofThoseMeeting_124 : decode b_Su_ofThoseMeeting 124 = .ok (.bipush 16, 2) := by decide +kernel
theorem d_Su_ofThoseMeeting_126 : decode b_Su_ofThoseMeeting 126 = .ok (.if_icmp .ne 7, 3) := by decide +kernel
theorem d_Su_ofThoseMeeting_129 : decode b_Su_ofThoseMeeting 129 = .ok (.dconst 0, 1) := by decide +kernel
theorem d_Su_ofThoseMeeting_130 : decode b_Su_ofThoseMeeting 130 = .ok (.goto 13, 3) := by decide +kernel
theorem d_Su_ofThoseMeeting_133 : decode b_Su_ofThoseMeeting 133 = .ok (.aload 4, 2) := by decide +kernel
theorem d_Su_ofThoseMeeting_135 : decode b_Su_ofThoseMeeting 135 = .ok (.iload 9, 2) := by decide +kernel
theorem d_Su_ofThoseMeeting_137 : decode b_Su_ofThoseMeeting 137 = .ok (.invokevirtual 102, 3) := by decide +kernel
theorem d_Su_ofThoseMeeting_140 : decode b_Su_ofThoseMeeting 140 = .ok (.getfield 89, 3) := by decide +kernel
theorem d_Su_ofThoseMeeting_143 : decode b_Su_ofThoseMeeting 143 = .ok (.dadd, 1) := by decide +kernel
theorem d_Su_ofThoseMeeting_144 : decode b_Su_ofThoseMeeting 144 = .ok (.dstore 7, 2) := by decide +kernel
theorem d_Su_ofThoseMeeting_146 : decode b_Su_ofThoseMeeting 146 = .ok (.iinc 9 1, 3) := by decide +kernel
theorem d_Su_ofThoseMeeting_149 : decode b_Su_ofThoseMeeting 149 = .ok (.goto (-85), 3) := by decide +kernel
theorem d_Su_ofThoseMeeting_152 : decode b_Su_ofThoseMeeting 152 = .ok (.iload_n 0, 1) := by decide +kernel
theorem d_Su_ofThoseMeeting_153 : decode b_Su_ofThoseMeeting 153 = .ok (.bipush 16, 2) := by decide +kernel
theorem d_Su_ofThoseMeeting_155 : decode b_Su_ofThoseMeeting 155 = .ok (.if_icmp .ne 10, 3) := by decide +kernel
theorem d_Su_ofThoseMeeting_158 : decode b_Su_ofThoseMeeting 158 = .ok (.iload 5, 2) := by decide +kernel
theorem d_Su_ofThoseMeeting_160 : decode b_Su_ofThoseMeeting 160 = .ok (.i2d, 1) := by decide +kernel
theorem d_Su_ofThoseMeeting_161 : decode b_Su_ofThoseMeeting 161 = .ok (.invokestatic 38, 3) := by decide +kernel
theorem d_Su_ofThoseMeeting_164 : decode b_Su_ofThoseMeeting 164 = .ok (.areturn, 1) := by decide +kernel
theorem d_Su_ofThoseMeeting_165 : decode b_Su_ofThoseMeeting 165 = .ok (.iload_n 0, 1) := by decide +kernel
theorem d_Su_ofThoseMeeting_166 : decode b_Su_ofThoseMeeting 166 = .ok (.bipush 17, 2) := by decide +kernel
theorem d_Su_ofThoseMeeting_168 : decode b_Su_ofThoseMeeting 168 = .ok (.if_icmp .ne 9, 3) := by decide +kernel
theorem d_Su_ofThoseMeeting_171 : decode b_Su_ofThoseMeeting 171 = .ok (.dload 7, 2) := by decide +kernel
theorem d_Su_ofThoseMeeting_173 : decode b_Su_ofThoseMeeting 173 = .ok (.invokestatic 38, 3) := by decide +kernel
theorem d_Su_ofThoseMeeting_176 : decode b_Su_ofThoseMeeting 176 = .ok (.areturn, 1) := by decide +kernel
theorem d_Su_ofThoseMeeting_177 : decode b_Su_ofThoseMeeting 177 = .ok (.iload 6, 2) := by decide +kernel
theorem d_Su_ofThoseMeeting_179 : decode b_Su_ofThoseMeeting 179 = .ok (.ifCond .ne 10, 3) := by decide +kernel
theorem d_Su_ofThoseMeeting_182 : decode b_Su_ofThoseMeeting 182 = .ok (.iconst 2, 1) := by decide +kernel
theorem d_Su_ofThoseMeeting_183 : decode b_Su_ofThoseMeeting 183 = .ok (.invokestatic 69, 3) := by decide +kernel
theorem d_Su_ofThoseMeeting_186 : decode b_Su_ofThoseMeeting 186 = .ok (.goto 12, 3) := by decide +kernel
theorem d_Su_ofThoseMeeting_189 : decode b_Su_ofThoseMeeting 189 = .ok (.dload 7, 2) := by decide +kernel
theorem d_Su_ofThoseMeeting_191 : decode b_Su_ofThoseMeeting 191 = .ok (.iload 6, 2) := by decide +kernel
theorem d_Su_ofThoseMeeting_193 : decode b_Su_ofThoseMeeting 193 = .ok (.i2d, 1) := by decide +kernel
theorem d_Su_ofThoseMeeting_194 : decode b_Su_ofThoseMeeting 194 = .ok (.ddiv, 1) := by decide +kernel
theorem d_Su_ofThoseMeeting_195 : decode b_Su_ofThoseMeeting 195 = .ok (.invokestatic 38, 3) := by decide +kernel
theorem d_Su_ofThoseMeeting_198 : decode b_Su_ofThoseMeeting 198 = .ok (.areturn, 1) := by decide +kernel
theorem p_Su_ofThoseMeeting_b198 (d : Nat)  (s0 : Option Nat) (h : gk_H) : gk_P gw_R (d + 8) y_Su_ofThoseMeeting b_Su_ofThoseMeeting 10 (some (.object "ValueAlgebra$Value")) [] (f_Su_ofThoseMeeting_b198  s0 h) 198 [] [va_rf s0] h := by
  unfold f_Su_ofThoseMeeting_b198
  exact gk_aret (pc := 198) rfl d_Su_ofThoseMeeting_198 rfl (Or.inl ⟨_, rfl⟩)
theorem p_Su_ofThoseMeeting_b152 (d : Nat)  (v0 : Int32) (v5 : Int32) (v6 : Int32) (v7 : UInt64) (h : gk_H) : gk_P gw_R (d + 8) y_Su_ofThoseMeeting b_Su_ofThoseMeeting 10 (some (.object "ValueAlgebra$Value")) [] (f_Su_ofThoseMeeting_b152  v0 v5 v6 v7 h) 152 [(0, .int v0), (5, .int v5), (6, .int v6), (7, .double v7)] [] h := by
  unfold f_Su_ofThoseMeeting_b152
  refine gk_iload_n (pc := 152) 0 d_Su_ofThoseMeeting_152 rfl ?_
  refine gk_bipush (pc := 153) (16 : Int32) d_Su_ofThoseMeeting_153 rfl ?_
  refine gk_icmp_ne (pc := 155) 165 d_Su_ofThoseMeeting_155 rfl (fun _ => ?_) (fun _ => ?_)
  · refine gk_iload (pc := 158) 1 d_Su_ofThoseMeeting_158 rfl ?_
    refine gk_i2d (pc := 160) d_Su_ofThoseMeeting_160 ?_
    refine gk_callS (pc := 161) (d := (d + 7)) (w' := gv_R) (as := [.double (FP.i2d v5)]) (n := 1) d_Su_ofThoseMeeting_161 rfl rfl (Nat.le_of_ble_eq_true rfl) tw_1047 tw_317 tw_97 cw_Va_ofNumber hy_Va_ofNumber (Nat.le_of_ble_eq_true rfl) (p_Va_ofNumber (d + 5) (FP.i2d v5) h) fun x1 h1 => ?_
    exact gk_aret (pc := 164) rfl d_Su_ofThoseMeeting_164 rfl (Or.inl ⟨_, rfl⟩)
  · refine gk_iload_n (pc := 165) 0 d_Su_ofThoseMeeting_165 rfl ?_
    refine gk_bipush (pc := 166) (17 : Int32) d_Su_ofThoseMeeting_166 rfl ?_
    refine gk_icmp_ne (pc := 168) 177 d_Su_ofThoseMeeting_168 rfl (fun _ => ?_) (fun _ => ?_)
    · refine gk_dload (pc := 171) 3 d_Su_ofThoseMeeting_171 rfl ?_
      refine gk_callS (pc := 173) (d := (d + 7)) (w' := gv_R) (as := [.double v7]) (n := 1) d_Su_ofThoseMeeting_173 rfl rfl (Nat.le_of_ble_eq_true rfl) tw_1047 tw_317 tw_97 cw_Va_ofNumber hy_Va_ofNumber (Nat.le_of_ble_eq_true rfl) (p_Va_ofNumber (d + 5) v7 h) fun x2 h2 => ?_
      exact gk_aret (pc := 176) rfl d_Su_ofThoseMeeting_176 rfl (Or.inl ⟨_, rfl⟩)
    · refine gk_iload (pc := 177) 2 d_Su_ofThoseMeeting_177 rfl ?_
      refine gk_if_ne (pc := 179) 189 d_Su_ofThoseMeeting_179 rfl (fun _ => ?_) (fun _ => ?_)
      · refine gk_iconst (pc := 182) (2 : Int32) d_Su_ofThoseMeeting_182 rfl ?_
        refine gk_callS (pc := 183) (d := (d + 7)) (w' := gv_R) (as := [.int (2 : Int32)]) (n := 1) d_Su_ofThoseMeeting_183 rfl rfl (Nat.le_of_ble_eq_true rfl) tw_1074 tw_236 tw_97 cw_Va_ofError hy_Va_ofError (Nat.le_of_ble_eq_true rfl) (p_Va_ofError (d + 5) (2 : Int32) h) fun x3 h3 => ?_
        refine gk_goto (pc := 186) 198 d_Su_ofThoseMeeting_186 rfl ?_
        refine gk_weak [] (L' := []) rfl ?_
        exact p_Su_ofThoseMeeting_b198 d x3 h3
      · refine gk_dload (pc := 189) 3 d_Su_ofThoseMeeting_189 rfl ?_
        refine gk_iload (pc := 191) 2 d_Su_ofThoseMeeting_191 rfl ?_
        refine gk_i2d (pc := 193) d_Su_ofThoseMeeting_193 ?_
        refine gk_ddivN (pc := 194) d_Su_ofThoseMeeting_194 fun x4 => ?_
        refine gk_callS (pc := 195) (d := (d + 7)) (w' := gv_R) (as := [.double x4]) (n := 1) d_Su_ofThoseMeeting_195 rfl rfl (Nat.le_of_ble_eq_true rfl) tw_1047 tw_317 tw_97 cw_Va_ofNumber hy_Va_ofNumber (Nat.le_of_ble_eq_true rfl) (p_Va_ofNumber (d + 5) x4 h) fun x5 h4 => ?_
        refine gk_weak [] (L' := []) rfl ?_
        exact p_Su_ofThoseMeeting_b198 d x5 h4
theorem p_Su_ofThoseMeeting_b146 (d : Nat) (b64 : Int32 → Option Nat → Option Nat → Option Nat → Int32 → Int32 → UInt64 → Int32 → gk_H → Option ((Option Nat) × gk_H)) (q64 : ∀ (v0 : Int32) (v2 : Option Nat) (v3 : Option Nat) (v4 : Option Nat) (v5 : Int32) (v6 : Int32) (v7 : UInt64) (v9 : Int32) (h : gk_H), gk_P gw_R (d + 8) y_Su_ofThoseMeeting b_Su_ofThoseMeeting 10 (some (.object "ValueAlgebra$Value")) [] (b64 v0 v2 v3 v4 v5 v6 v7 v9 h) 64 [(0, .int v0), (2, va_rf v2), (3, va_rf v3), (4, va_rf v4), (5, .int v5), (6, .int v6), (7, .double v7), (9, .int v9)] [] h) (v0 : Int32) (v2 : Option Nat) (v3 : Option Nat) (v4 : Option Nat) (v5 : Int32) (v6 : Int32) (v7 : UInt64) (v9 : Int32) (h : gk_H) : gk_P gw_R (d + 8) y_Su_ofThoseMeeting b_Su_ofThoseMeeting 10 (some (.object "ValueAlgebra$Value")) [] (f_Su_ofThoseMeeting_b146 b64 v0 v2 v3 v4 v5 v6 v7 v9 h) 146 [(0, .int v0), (2, va_rf v2), (3, va_rf v3), (4, va_rf v4), (5, .int v5), (6, .int v6), (7, .double v7), (9, .int v9)] [] h := by
  unfold f_Su_ofThoseMeeting_b146
  refine gk_iincN (pc := 146) 7 (1 : Int32) (L' := fun x1 => [(9, .int x1), (0, .int v0), (2, va_rf v2), (3, va_rf v3), (4, va_rf v4), (5, .int v5), (6, .int v6), (7, .double v7)]) d_Su_ofThoseMeeting_146 rfl rfl (Nat.le_of_ble_eq_true rfl) (fun _ => rfl) fun x1 => ?_
  refine gk_goto (pc := 149) 64 d_Su_ofThoseMeeting_149 rfl ?_
  refine gk_weak [1, 2, 3, 4, 5, 6, 7, 0] (L' := [(0, .int v0), (2, va_rf v2), (3, va_rf v3), (4, va_rf v4), (5, .int v5), (6, .int v6), (7, .double v7), (9, .int x1)]) rfl ?_
  exact q64 v0 v2 v3 v4 v5 v6 v7 x1 h
theorem p_Su_ofThoseMeeting_b143 (d : Nat) (b64 : Int32 → Option Nat → Option Nat → Option Nat → Int32 → Int32 → UInt64 → Int32 → gk_H → Option ((Option Nat) × gk_H)) (q64 : ∀ (v0 : Int32) (v2 : Option Nat) (v3 : Option Nat) (v4 : Option Nat) (v5 : Int32) (v6 : Int32) (v7 : UInt64) (v9 : Int32) (h : gk_H), gk_P gw_R (d + 8) y_Su_ofThoseMeeting b_Su_ofThoseMeeting 10 (some (.object "ValueAlgebra$Value")) [] (b64 v0 v2 v3 v4 v5 v6 v7 v9 h) 64 [(0, .int v0), (2, va_rf v2), (3, va_rf v3), (4, va_rf v4), (5, .int v5), (6, .int v6), (7, .double v7), (9, .int v9)] [] h) (v0 : Int32) (v2 : Option Nat) (v3 : Option Nat) (v4 : Option Nat) (v5 : Int32) (v6 : Int32) (v9 : Int32) (s0 : UInt64) (s1 : UInt64) (h : gk_H) : gk_P gw_R (d + 8) y_Su_ofThoseMeeting b_Su_ofThoseMeeting 10 (some (.object "ValueAlgebra$Value")) [] (f_Su_ofThoseMeeting_b143 b64 v0 v2 v3 v4 v5 v6 v9 s0 s1 h) 143 [(0, .int v0), (2, va_rf v2), (3, va_rf v3), (4, va_rf v4), (5, .int v5), (6, .int v6), (9, .int v9)] [.double s1, .double s0] h := by
  unfold f_Su_ofThoseMeeting_b143
  refine gk_daddN (pc := 143) d_Su_ofThoseMeeting_143 fun x1 => ?_
  refine gk_dstore (pc := 144) (L' := [(7, .double x1), (0, .int v0), (2, va_rf v2), (3, va_rf v3), (4, va_rf v4), (5, .int v5), (6, .int v6), (9, .int v9)]) d_Su_ofThoseMeeting_144 (Nat.le_of_ble_eq_true rfl) rfl ?_
  refine gk_weak [1, 2, 3, 4, 5, 6, 0, 7] (L' := [(0, .int v0), (2, va_rf v2), (3, va_rf v3), (4, va_rf v4), (5, .int v5), (6, .int v6), (7, .double x1), (9, .int v9)]) rfl ?_
  exact p_Su_ofThoseMeeting_b146 d b64 q64 v0 v2 v3 v4 v5 v6 x1 v9 h
theorem p_Su_ofThoseMeeting_b118 (d : Nat) (b64 : Int32 → Option Nat → Option Nat → Option Nat → Int32 → Int32 → UInt64 → Int32 → gk_H → Option ((Option Nat) × gk_H)) (q64 : ∀ (v0 : Int32) (v2 : Option Nat) (v3 : Option Nat) (v4 : Option Nat) (v5 : Int32) (v6 : Int32) (v7 : UInt64) (v9 : Int32) (h : gk_H), gk_P gw_R (d + 8) y_Su_ofThoseMeeting b_Su_ofThoseMeeting 10 (some (.object "ValueAlgebra$Value")) [] (b64 v0 v2 v3 v4 v5 v6 v7 v9 h) 64 [(0, .int v0), (2, va_rf v2), (3, va_rf v3), (4, va_rf v4), (5, .int v5), (6, .int v6), (7, .double v7), (9, .int v9)] [] h) (v0 : Int32) (v2 : Option Nat) (v3 : Option Nat) (v4 : Option Nat) (v5 : Int32) (v7 : UInt64) (v9 : Int32) (s0 : Int32) (s1 : Int32) (h : gk_H) : gk_P gw_R (d + 8) y_Su_ofThoseMeeting b_Su_ofThoseMeeting 10 (some (.object "ValueAlgebra$Value")) [] (f_Su_ofThoseMeeting_b118 b64 v0 v2 v3 v4 v5 v7 v9 s0 s1 h) 118 [(0, .int v0), (2, va_rf v2), (3, va_rf v3), (4, va_rf v4), (5, .int v5), (7, .double v7), (9, .int v9)] [.int s1, .int s0] h := by
  unfold f_Su_ofThoseMeeting_b118
  refine gk_iadd (pc := 118) d_Su_ofThoseMeeting_118 ?_
  refine gk_topI (pc := 119) fun x1 => ?_
  refine gk_istore (pc := 119) (L' := [(6, .int x1), (0, .int v0), (2, va_rf v2), (3, va_rf v3), (4, va_rf v4), (5, .int v5), (7, .double v7), (9, .int v9)]) d_Su_ofThoseMeeting_119 (Nat.le_of_ble_eq_true rfl) rfl ?_
  refine gk_dload (pc := 121) 6 d_Su_ofThoseMeeting_121 rfl ?_
  refine gk_iload_n (pc := 123) 1 d_Su_ofThoseMeeting_123 rfl ?_
  refine gk_bipush (pc := 124) (16 : Int32) d_Su_ofThoseMeeting_124 rfl ?_
  refine gk_icmp_ne (pc := 126) 133 d_Su_ofThoseMeeting_126 rfl (fun _ => ?_) (fun _ => ?_)
  · refine gk_dconst0 (pc := 129) d_Su_ofThoseMeeting_129 ?_
    refine gk_goto (pc := 130) 143 d_Su_ofThoseMeeting_130 rfl ?_
    refine gk_weak [1, 2, 3, 4, 5, 0, 7] (L' := [(0, .int v0), (2, va_rf v2), (3, va_rf v3), (4, va_rf v4), (5, .int v5), (6, .int x1), (9, .int v9)]) rfl ?_
    exact p_Su_ofThoseMeeting_b143 d b64 q64 v0 v2 v3 v4 v5 x1 v9 v7 (0x0000000000000000) h
  · refine gk_aload (pc := 133) 4 d_Su_ofThoseMeeting_133 rfl ?_
    refine gk_iload (pc := 135) 7 d_Su_ofThoseMeeting_135 rfl ?_
    refine gk_callV (pc := 137) (d := (d + 7)) (w' := gv_R) (as := [.int v9]) (n := 1) 2 d_Su_ofThoseMeeting_137 rfl rfl rfl rfl (Nat.le_of_ble_eq_true rfl) tw_1038 tw_780 tw_781 tw_97 cw_Va_cellAt hy_Va_cellAt (Nat.le_of_ble_eq_true rfl) (p_Va_cellAt (d + 7) v4 v9 h) fun x2 h1 => ?_
    refine gk_getD (pc := 140) 2 2 d_Su_ofThoseMeeting_140 rfl (Nat.le_of_ble_eq_true rfl) tw_202 fun x3 => ?_
    refine gk_weak [1, 2, 3, 4, 5, 0, 7] (L' := [(0, .int v0), (2, va_rf v2), (3, va_rf v3), (4, va_rf v4), (5, .int v5), (6, .int x1), (9, .int v9)]) rfl ?_
    exact p_Su_ofThoseMeeting_b143 d b64 q64 v0 v2 v3 v4 v5 x1 v9 v7 x3 h1
theorem p_Su_ofThoseMeeting_b64 (d : Nat)  : ∀ (fu : Nat) (v0 : Int32) (v2 : Option Nat) (v3 : Option Nat) (v4 : Option Nat) (v5 : Int32) (v6 : Int32) (v7 : UInt64) (v9 : Int32) (h : gk_H), gk_P gw_R (d + 8) y_Su_ofThoseMeeting b_Su_ofThoseMeeting 10 (some (.object "ValueAlgebra$Value")) [] (f_Su_ofThoseMeeting_b64  fu v0 v2 v3 v4 v5 v6 v7 v9 h) 64 [(0, .int v0), (2, va_rf v2), (3, va_rf v3), (4, va_rf v4), (5, .int v5), (6, .int v6), (7, .double v7), (9, .int v9)] [] h := by
  intro fu
  induction fu with
  | zero => intros; exact gk_none
  | succ fu q64 =>
    intro v0 v2 v3 v4 v5 v6 v7 v9 h
    rw [f_Su_ofThoseMeeting_b64]
    refine gk_iload (pc := 64) 7 d_Su_ofThoseMeeting_64 rfl ?_
    refine gk_aload_n (pc := 66) 1 d_Su_ofThoseMeeting_66 rfl ?_
    refine gk_callV (pc := 67) (d := (d + 7)) (w' := gv_I) (as := []) (n := 0) 2 d_Su_ofThoseMeeting_67 rfl rfl rfl rfl (Nat.le_of_ble_eq_true rfl) tw_1037 tw_776 tw_777 tw_97 cw_Va_howManyCells hy_Va_howManyCells (Nat.le_of_ble_eq_true rfl) (p_Va_howManyCells (d + 7) v2 h) fun x1 h1 => ?_
    refine gk_icmp_ge (pc := 70) 152 d_Su_ofThoseMeeting_70 rfl (fun _ => ?_) (fun _ => ?_)
    · refine gk_weak [0, 4, 5, 6] (L' := [(0, .int v0), (5, .int v5), (6, .int v6), (7, .double v7)]) rfl ?_
      exact p_Su_ofThoseMeeting_b152 d v0 v5 v6 v7 h1
    · refine gk_dload (pc := 73) 6 d_Su_ofThoseMeeting_73 rfl ?_
      refine gk_callS (pc := 75) (d := (d + 7)) (w' := gv_I) (as := [.double v7]) (n := 1) d_Su_ofThoseMeeting_75 rfl rfl (Nat.le_of_ble_eq_true rfl) tw_1095 tw_320 tw_97 cw_Va_isFinite hy_Va_isFinite (Nat.le_of_ble_eq_true rfl) (p_Va_isFinite (d + 7) v7 h1) fun x2 h2 => ?_
      refine gk_if_eq (pc := 78) 152 d_Su_ofThoseMeeting_78 rfl (fun _ => ?_) (fun _ => ?_)
      · refine gk_weak [0, 4, 5, 6] (L' := [(0, .int v0), (5, .int v5), (6, .int v6), (7, .double v7)]) rfl ?_
        exact p_Su_ofThoseMeeting_b152 d v0 v5 v6 v7 h2
      · refine gk_aload_n (pc := 81) 2 d_Su_ofThoseMeeting_81 rfl ?_
        refine gk_aload_n (pc := 82) 1 d_Su_ofThoseMeeting_82 rfl ?_
        refine gk_iload (pc := 83) 7 d_Su_ofThoseMeeting_83 rfl ?_
        refine gk_callV (pc := 85) (d := (d + 7)) (w' := gv_R) (as := [.int v9]) (n := 1) 2 d_Su_ofThoseMeeting_85 rfl rfl rfl rfl (by simp [gk_cat_rf, gk_catI, gk_catJ, gk_catD, gv_V, gv_I, gv_J, gv_D, gv_R]) tw_1038 tw_780 tw_781 tw_97 cw_Va_cellAt hy_Va_cellAt (Nat.le_of_ble_eq_true rfl) (p_Va_cellAt (d + 7) v2 v9 h2) fun x3 h3 => ?_
        refine gk_callV (pc := 88) (d := (d + 7)) (w' := gv_I) (as := [va_rf x3]) (n := 1) 6 d_Su_ofThoseMeeting_88 rfl rfl rfl rfl (Nat.le_of_ble_eq_true rfl) tw_1172 tw_1173 tw_1174 tw_120 cw_Cr_isMetBy hy_Cr_isMetBy (Nat.le_of_ble_eq_true rfl) (p_Cr_isMetBy (d + 1) v3 x3 h3) fun x4 h4 => ?_
        refine gk_if_eq (pc := 91) 146 d_Su_ofThoseMeeting_91 rfl (fun _ => ?_) (fun _ => ?_)
        · exact p_Su_ofThoseMeeting_b146 d (f_Su_ofThoseMeeting_b64 fu) q64 v0 v2 v3 v4 v5 v6 v7 v9 h4
        · refine gk_iincN (pc := 94) 4 (1 : Int32) (L' := fun x5 => [(5, .int x5), (0, .int v0), (2, va_rf v2), (3, va_rf v3), (4, va_rf v4), (6, .int v6), (7, .double v7), (9, .int v9)]) d_Su_ofThoseMeeting_94 rfl rfl (Nat.le_of_ble_eq_true rfl) (fun _ => by simp [gk_s1, gk_cat_rf, gk_catI, gk_catJ, gk_catD] <;> decide) fun x5 => ?_
          refine gk_iload (pc := 97) 5 d_Su_ofThoseMeeting_97 rfl ?_
          refine gk_aload (pc := 99) 4 d_Su_ofThoseMeeting_99 rfl ?_
          refine gk_iload (pc := 101) 7 d_Su_ofThoseMeeting_101 rfl ?_
          refine gk_callV (pc := 103) (d := (d + 7)) (w' := gv_R) (as := [.int v9]) (n := 1) 2 d_Su_ofThoseMeeting_103 rfl rfl rfl rfl (Nat.le_of_ble_eq_true rfl) tw_1038 tw_780 tw_781 tw_97 cw_Va_cellAt hy_Va_cellAt (Nat.le_of_ble_eq_true rfl) (p_Va_cellAt (d + 7) v4 v9 h4) fun x6 h5 => ?_
          refine gk_getI (pc := 106) 2 0 d_Su_ofThoseMeeting_106 rfl (Nat.le_of_ble_eq_true rfl) tw_192 fun x7 => ?_
          refine gk_iconst (pc := 109) (1 : Int32) d_Su_ofThoseMeeting_109 rfl ?_
          refine gk_icmp_ne (pc := 110) 117 d_Su_ofThoseMeeting_110 rfl (fun _ => ?_) (fun _ => ?_)
          · refine gk_iconst (pc := 113) (1 : Int32) d_Su_ofThoseMeeting_113 rfl ?_
            refine gk_goto (pc := 114) 118 d_Su_ofThoseMeeting_114 rfl ?_
            refine gk_weak [1, 2, 3, 4, 0, 6, 7] (L' := [(0, .int v0), (2, va_rf v2), (3, va_rf v3), (4, va_rf v4), (5, .int x5), (7, .double v7), (9, .int v9)]) rfl ?_
            exact p_Su_ofThoseMeeting_b118 d (f_Su_ofThoseMeeting_b64 fu) q64 v0 v2 v3 v4 x5 v7 v9 v6 (1 : Int32) h5
          · refine gk_iconst (pc := 117) (0 : Int32) d_Su_ofThoseMeeting_117 rfl ?_
            refine gk_weak [1, 2, 3, 4, 0, 6, 7] (L' := [(0, .int v0), (2, va_rf v2), (3, va_rf v3), (4, va_rf v4), (5, .int x5), (7, .double v7), (9, .int v9)]) rfl ?_
            exact p_Su_ofThoseMeeting_b118 d (f_Su_ofThoseMeeting_b64 fu) q64 v0 v2 v3 v4 x5 v7 v9 v6 (0 : Int32) h5
theorem p_Su_ofThoseMeeting_b36 (d : Nat)  (v0 : Int32) (v2 : Option Nat) (v3 : Option Nat) (s0 : Option Nat) (h : gk_H) : gk_P gw_R (d + 8) y_Su_ofThoseMeeting b_Su_ofThoseMeeting 10 (some (.object "ValueAlgebra$Value")) [] (f_Su_ofThoseMeeting_b36  v0 v2 v3 s0 h) 36 [(0, .int v0), (2, va_rf v2), (3, va_rf v3)] [va_rf s0] h := by
  unfold f_Su_ofThoseMeeting_b36
  refine gk_astore (pc := 36) (L' := [(4, va_rf s0), (0, .int v0), (2, va_rf v2), (3, va_rf v3)]) d_Su_ofThoseMeeting_36 (Nat.le_of_ble_eq_true rfl) (by simp [gk_s1, gk_s2, gk_cat_rf, gk_catI, gk_catJ, gk_catD] <;> decide) ?_
  refine gk_aload (pc := 38) 0 d_Su_ofThoseMeeting_38 rfl ?_
  refine gk_aload_n (pc := 40) 2 d_Su_ofThoseMeeting_40 rfl ?_
  refine gk_callV (pc := 41) (d := (d + 7)) (w' := gv_I) (as := [va_rf v2]) (n := 1) 2 d_Su_ofThoseMeeting_41 rfl rfl rfl rfl (Nat.le_of_ble_eq_true rfl) tw_1091 tw_1092 tw_1093 tw_97 cw_Va_isOfShape hy_Va_isOfShape (Nat.le_of_ble_eq_true rfl) (p_Va_isOfShape (d + 7) s0 v2 h) fun x1 h1 => ?_
  refine gk_if_ne (pc := 44) 52 d_Su_ofThoseMeeting_44 rfl (fun _ => ?_) (fun _ => ?_)
  · refine gk_iconst (pc := 47) (3 : Int32) d_Su_ofThoseMeeting_47 rfl ?_
    refine gk_callS (pc := 48) (d := (d + 7)) (w' := gv_R) (as := [.int (3 : Int32)]) (n := 1) d_Su_ofThoseMeeting_48 rfl rfl (Nat.le_of_ble_eq_true rfl) tw_1074 tw_236 tw_97 cw_Va_ofError hy_Va_ofError (Nat.le_of_ble_eq_true rfl) (p_Va_ofError (d + 5) (3 : Int32) h1) fun x2 h2 => ?_
    exact gk_aret (pc := 51) rfl d_Su_ofThoseMeeting_51 rfl (Or.inl ⟨_, rfl⟩)
  · refine gk_iconst (pc := 52) (0 : Int32) d_Su_ofThoseMeeting_52 rfl ?_
    refine gk_istore (pc := 53) (L' := [(5, .int (0 : Int32)), (4, va_rf s0), (0, .int v0), (2, va_rf v2), (3, va_rf v3)]) d_Su_ofThoseMeeting_53 (Nat.le_of_ble_eq_true rfl) (by simp [gk_s1, gk_s2, gk_cat_rf, gk_catI, gk_catJ, gk_catD] <;> decide) ?_
    refine gk_iconst (pc := 55) (0 : Int32) d_Su_ofThoseMeeting_55 rfl ?_
    refine gk_istore (pc := 56) (L' := [(6, .int (0 : Int32)), (5, .int (0 : Int32)), (4, va_rf s0), (0, .int v0), (2, va_rf v2), (3, va_rf v3)]) d_Su_ofThoseMeeting_56 (Nat.le_of_ble_eq_true rfl) rfl ?_
    refine gk_dconst0 (pc := 58) d_Su_ofThoseMeeting_58 ?_
    refine gk_dstore (pc := 59) (L' := [(7, .double (0x0000000000000000)), (6, .int (0 : Int32)), (5, .int (0 : Int32)), (4, va_rf s0), (0, .int v0), (2, va_rf v2), (3, va_rf v3)]) d_Su_ofThoseMeeting_59 (Nat.le_of_ble_eq_true rfl) rfl ?_
    refine gk_iconst (pc := 61) (0 : Int32) d_Su_ofThoseMeeting_61 rfl ?_
    refine gk_istore (pc := 62) (L' := [(9, .int (0 : Int32)), (7, .double (0x0000000000000000)), (6, .int (0 : Int32)), (5, .int (0 : Int32)), (4, va_rf s0), (0, .int v0), (2, va_rf v2), (3, va_rf v3)]) d_Su_ofThoseMeeting_62 (Nat.le_of_ble_eq_true rfl) rfl ?_
    refine gk_weak [5, 6, 7, 4, 3, 2, 1, 0] (L' := [(0, .int v0), (2, va_rf v2), (3, va_rf v3), (4, va_rf s0), (5, .int (0 : Int32)), (6, .int (0 : Int32)), (7, .double (0x0000000000000000)), (9, .int (0 : Int32))]) rfl ?_
    exact p_Su_ofThoseMeeting_b64 d gk_F v0 v2 v3 s0 (0 : Int32) (0 : Int32) (0x0000000000000000) (0 : Int32) h1
theorem w_Su_ofThoseMeeting (d : Nat) (a0 : Int32) (a1 : Option Nat) (h : gk_H) : gk_P gw_R (d + 8) y_Su_ofThoseMeeting b_Su_ofThoseMeeting 10 (some (.object "ValueAlgebra$Value")) [] (f_Su_ofThoseMeeting a0 a1 h) 0 [(0, .int a0), (1, va_rf a1)] [] h := by
  unfold f_Su_ofThoseMeeting
  refine gk_aload_n (pc := 0) 1 d_Su_ofThoseMeeting_0 rfl ?_
  refine gk_iconst (pc := 1) (0 : Int32) d_Su_ofThoseMeeting_1 rfl ?_
  refine gk_callV (pc := 2) (d := (d + 7)) (w' := gv_R) (as := [.int (0 : Int32)]) (n := 1) 4 d_Su_ofThoseMeeting_2 rfl rfl rfl rfl (Nat.le_of_ble_eq_true rfl) tw_1033 tw_1034 tw_1035 tw_96 cw_Ar_raw hy_Ar_raw (Nat.le_of_ble_eq_true rfl) (p_Ar_raw (d + 7) a1 (0 : Int32) h) fun x1 h1 => ?_
  refine gk_astore_n (pc := 5) (L' := [(2, va_rf x1), (0, .int a0), (1, va_rf a1)]) d_Su_ofThoseMeeting_5 (Nat.le_of_ble_eq_true rfl) (by simp [gk_s1, gk_s2, gk_cat_rf, gk_catI, gk_catJ, gk_catD] <;> decide) ?_
  refine gk_aload_n (pc := 6) 2 d_Su_ofThoseMeeting_6 rfl ?_
  refine gk_iconst (pc := 7) (1 : Int32) d_Su_ofThoseMeeting_7 rfl ?_
  refine gk_callV (pc := 8) (d := (d + 7)) (w' := gv_R) (as := [.int (1 : Int32)]) (n := 1) 4 d_Su_ofThoseMeeting_8 rfl rfl rfl rfl (Nat.le_of_ble_eq_true rfl) tw_1102 tw_792 tw_793 tw_96 cw_Ar_sound hy_Ar_sound (Nat.le_of_ble_eq_true rfl) (p_Ar_sound (d + 6) a1 (1 : Int32) h1) fun x2 h2 => ?_
  refine gk_aload_n (pc := 11) 2 d_Su_ofThoseMeeting_11 rfl ?_
  refine gk_getR (pc := 12) 4 8 d_Su_ofThoseMeeting_12 rfl (Nat.le_of_ble_eq_true rfl) tw_271 fun x3 => ?_
  refine gk_callS (pc := 15) (d := (d + 7)) (w' := gv_R) (as := [va_rf x2, va_rf x3]) (n := 2) d_Su_ofThoseMeeting_15 rfl rfl (Nat.le_of_ble_eq_true rfl) tw_1103 tw_1104 tw_120 cw_Cr_of hy_Cr_of (Nat.le_of_ble_eq_true rfl) (p_Cr_of d x2 x3 h2) fun x4 h3 => ?_
  refine gk_astore_n (pc := 18) (L' := [(3, va_rf x4), (2, va_rf x1), (0, .int a0), (1, va_rf a1)]) d_Su_ofThoseMeeting_18 (Nat.le_of_ble_eq_true rfl) (by simp [gk_s1, gk_s2, gk_cat_rf, gk_catI, gk_catJ, gk_catD] <;> decide) ?_
  refine gk_aload_n (pc := 19) 3 d_Su_ofThoseMeeting_19 rfl ?_
  refine gk_callV (pc := 20) (d := (d + 7)) (w' := gv_I) (as := []) (n := 0) 4 d_Su_ofThoseMeeting_20 rfl rfl rfl rfl (Nat.le_of_ble_eq_true rfl) tw_1029 tw_1030 tw_1031 tw_96 cw_Ar_howMany hy_Ar_howMany (Nat.le_of_ble_eq_true rfl) (p_Ar_howMany (d + 7) a1 h3) fun x5 h4 => ?_
  refine gk_iconst (pc := 23) (2 : Int32) d_Su_ofThoseMeeting_23 rfl ?_
  refine gk_icmp_le (pc := 24) 35 d_Su_ofThoseMeeting_24 rfl (fun _ => ?_) (fun _ => ?_)
  · refine gk_aload_n (pc := 35) 1 d_Su_ofThoseMeeting_35 rfl ?_
    refine gk_weak [2, 1, 0] (L' := [(0, .int a0), (2, va_rf x1), (3, va_rf x4)]) rfl ?_
    exact p_Su_ofThoseMeeting_b36 d a0 x1 x4 x1 h4
  · refine gk_aload_n (pc := 27) 3 d_Su_ofThoseMeeting_27 rfl ?_
    refine gk_iconst (pc := 28) (2 : Int32) d_Su_ofThoseMeeting_28 rfl ?_
    refine gk_callV (pc := 29) (d := (d + 7)) (w' := gv_R) (as := [.int (2 : Int32)]) (n := 1) 4 d_Su_ofThoseMeeting_29 rfl rfl rfl rfl (Nat.le_of_ble_eq_true rfl) tw_1033 tw_1034 tw_1035 tw_96 cw_Ar_raw hy_Ar_raw (Nat.le_of_ble_eq_true rfl) (p_Ar_raw (d + 7) a1 (2 : Int32) h4) fun x6 h5 => ?_
    refine gk_goto (pc := 32) 36 d_Su_ofThoseMeeting_32 rfl ?_
    refine gk_weak [2, 1, 0] (L' := [(0, .int a0), (2, va_rf x1), (3, va_rf x4)]) rfl ?_
    exact p_Su_ofThoseMeeting_b36 d a0 x1 x4 x6 h5
theorem p_Su_ofThoseMeeting (d : Nat) (a0 : Int32) (a1 : Option Nat) (h : gk_H) : ∀ r h1, f_Su_ofThoseMeeting a0 a1 h = some (r, h1) → gk_M (d + 8) y_Su_ofThoseMeeting b_Su_ofThoseMeeting 10 (some (.object "ValueAlgebra$Value")) [.int a0, va_rf a1] h (.inl (gv_R r)) h1 :=
  fun r h1 e => gk_M_of2 (by decide +kernel) (by simp [lv_args, gk_cat_rf, gk_catI, gk_catJ, gk_catD, gv_V, gv_I, gv_J, gv_D, gv_R]) (by simp [lg_sl, gk_cat_rf, gk_catI, gk_catJ, gk_catD, gv_V, gv_I, gv_J, gv_D, gv_R]) (w_Su_ofThoseMeeting d a0 a1 h r h1 e)
theorem d_Ar_blameCells_0 : decode b_Ar_blameCells 0 = .ok (.aload_n 0, 1) := by decide +kernel
theorem d_Ar_blameCells_1 : decode b_Ar_blameCells 1 = .ok (.iload_n 1, 1) := by decide +kernel
theorem d_Ar_blameCells_2 : decode b_Ar_blameCells 2 = .ok (.invokevirtual 131, 3) := by decide +kernel
theorem d_Ar_blameCells_5 : decode b_Ar_blameCells 5 = .ok (.astore_n 2, 1) := by decide +kernel
theorem d_Ar_blameCells_6 : decode b_Ar_blameCells 6 = .ok (.iconst 0, 1) := by decide +kernel
theorem d_Ar_blameCells_7 : decode b_Ar_blameCells 7 = .ok (.istore_n 3, 1) := by decide +kernel
theorem d_Ar_blameCells_8 : decode b_Ar_blameCells 8 = .ok (.iload_n 3, 1) := by decide +kernel
theorem d_Ar_blameCells_9 : decode b_Ar_blameCells 9 = .ok (.aload_n 2, 1) := by decide +kernel
theorem d_Ar_blameCells_10 : decode b_Ar_blameCells 10 = .ok (.invokevirtual 50, 3) := by decide +kernel
theorem d_Ar_blameCells_13 : decode b_Ar_blameCells 13 = .ok (.if_icmp .ge 33, 3) := by decide +kernel
theorem d_Ar_blameCells_16 : decode b_Ar_blameCells 16 = .ok (.aload_n 2, 1) := by decide +kernel
theorem d_Ar_blameCells_17 : decode b_Ar_blameCells 17 = .ok (.iload_n 3, 1) := by decide +kernel
theorem d_Ar_blameCells_18 : decode b_Ar_blameCells 18 = .ok (.invokevirtual 54, 3) := by decide +kernel
theorem d_Ar_blameCells_21 : decode b_Ar_blameCells 21 = .ok (.getfield 66, 3) := by decide +kernel
theorem d_Ar_blameCells_24 : decode b_Ar_blameCells 24 = .ok (.iconst 4, 1) := by decide +kernel
theorem d_Ar_blameCells_25 : decode b_Ar_blameCells 25 = .ok (.if_icmp .ne 15, 3) := by decide +kernel
theorem d_Ar_blameCells_28 : decode b_Ar_blameCells 28 = .ok (.aload_n 0, 1) := by decide +kernel
theorem d_Ar_blameCells_29 : decode b_Ar_blameCells 29 = .ok (.aload_n 2, 1) := by decide +kernel
theorem d_Ar_blameCells_30 : decode b_Ar_blameCells 30 = .ok (.iload_n 3, 1) := by decide +kernel
theorem d_Ar_blameCells_31 : decode b_Ar_blameCells 31 = .ok (.invokevirtual 54, 3) := by decide +kernel
theorem d_Ar_blameCells_34 : decode b_Ar_blameCells 34 = .ok (.getfield 69, 3) := by decide +kernel
theorem d_Ar_blameCells_37 : decode b_Ar_blameCells 37 = .ok (.invokevirtual 72, 3) := by decide +kernel
theorem d_Ar_blameCells_40 : decode b_Ar_blameCells 40 = .ok (.iinc 3 1, 3) := by decide +kernel
theorem d_Ar_blameCells_43 : decode b_Ar_blameCells 43 = .ok (.goto (-35), 3) := by decide +kernel
theorem d_Ar_blameCells_46 : decode b_Ar_blameCells 46 = .ok (.return_, 1) := by decide +kernel
theorem p_Ar_blameCells_b40 (d : Nat) (b8 : Option Nat → Option Nat → Int32 → gk_H → Option (Unit × gk_H)) (q8 : ∀ (v0 : Option Nat) (v2 : Option Nat) (v3 : Int32) (h : gk_H), gk_P gw_V (d + 1) y_Ar_blameCells b_Ar_blameCells 4 none [] (b8 v0 v2 v3 h) 8 [(0, va_rf v0), (2, va_rf v2), (3, .int v3)] [] h) (v0 : Option Nat) (v2 : Option Nat) (v3 : Int32) (h : gk_H) : gk_P gw_V (d + 1) y_Ar_blameCells b_Ar_blameCells 4 none [] (f_Ar_blameCells_b40 b8 v0 v2 v3 h) 40 [(0, va_rf v0), (2, va_rf v2), (3, .int v3)] [] h := by
  unfold f_Ar_blameCells_b40
  refine gk_iincN (pc := 40) 2 (1 : Int32) (L' := fun x1 => [(3, .int x1), (0, va_rf v0), (2, va_rf v2)]) d_Ar_blameCells_40 rfl rfl (Nat.le_of_ble_eq_true rfl) (fun _ => by simp [gk_s1, gk_cat_rf, gk_catI, gk_catJ, gk_catD] <;> decide) fun x1 => ?_
  refine gk_goto (pc := 43) 8 d_Ar_blameCells_43 rfl ?_
  refine gk_weak [1, 2, 0] (L' := [(0, va_rf v0), (2, va_rf v2), (3, .int x1)]) rfl ?_
  exact q8 v0 v2 x1 h
theorem p_Ar_blameCells_b8 (d : Nat)  : ∀ (fu : Nat) (v0 : Option Nat) (v2 : Option Nat) (v3 : Int32) (h : gk_H), gk_P gw_V (d + 1) y_Ar_blameCells b_Ar_blameCells 4 none [] (f_Ar_blameCells_b8  fu v0 v2 v3 h) 8 [(0, va_rf v0), (2, va_rf v2), (3, .int v3)] [] h := by
  intro fu
  induction fu with
  | zero => intros; exact gk_none
  | succ fu q8 =>
    intro v0 v2 v3 h
    rw [f_Ar_blameCells_b8]
    refine gk_iload_n (pc := 8) 2 d_Ar_blameCells_8 rfl ?_
    refine gk_aload_n (pc := 9) 1 d_Ar_blameCells_9 rfl ?_
    refine gk_callV (pc := 10) (d := d) (w' := gv_I) (as := []) (n := 0) 2 d_Ar_blameCells_10 rfl rfl rfl rfl (Nat.le_of_ble_eq_true rfl) tw_775 tw_776 tw_777 tw_97 cw_Va_howManyCells hy_Va_howManyCells (Nat.le_of_ble_eq_true rfl) (p_Va_howManyCells d v2 h) fun x1 h1 => ?_
    refine gk_icmp_ge (pc := 13) 46 d_Ar_blameCells_13 rfl (fun _ => ?_) (fun _ => ?_)
    · exact gk_vret (pc := 46) rfl d_Ar_blameCells_46 rfl
    · refine gk_aload_n (pc := 16) 1 d_Ar_blameCells_16 rfl ?_
      refine gk_iload_n (pc := 17) 2 d_Ar_blameCells_17 rfl ?_
      refine gk_callV (pc := 18) (d := d) (w' := gv_R) (as := [.int v3]) (n := 1) 2 d_Ar_blameCells_18 rfl rfl rfl rfl (Nat.le_of_ble_eq_true rfl) tw_779 tw_780 tw_781 tw_97 cw_Va_cellAt hy_Va_cellAt (Nat.le_of_ble_eq_true rfl) (p_Va_cellAt d v2 v3 h1) fun x2 h2 => ?_
      refine gk_getI (pc := 21) 2 0 d_Ar_blameCells_21 rfl (Nat.le_of_ble_eq_true rfl) tw_191 fun x3 => ?_
      refine gk_iconst (pc := 24) (4 : Int32) d_Ar_blameCells_24 rfl ?_
      refine gk_icmp_ne (pc := 25) 40 d_Ar_blameCells_25 rfl (fun _ => ?_) (fun _ => ?_)
      · refine gk_aload_n (pc := 28) 0 d_Ar_blameCells_28 rfl ?_
        refine gk_aload_n (pc := 29) 1 d_Ar_blameCells_29 rfl ?_
        refine gk_iload_n (pc := 30) 2 d_Ar_blameCells_30 rfl ?_
        refine gk_callV (pc := 31) (d := d) (w' := gv_R) (as := [.int v3]) (n := 1) 2 d_Ar_blameCells_31 rfl rfl rfl rfl (by simp [gk_cat_rf, gk_catI, gk_catJ, gk_catD, gv_V, gv_I, gv_J, gv_D, gv_R]) tw_779 tw_780 tw_781 tw_97 cw_Va_cellAt hy_Va_cellAt (Nat.le_of_ble_eq_true rfl) (p_Va_cellAt d v2 v3 h2) fun x4 h3 => ?_
        refine gk_getI (pc := 34) 2 1 d_Ar_blameCells_34 rfl (Nat.le_of_ble_eq_true rfl) tw_196 fun x5 => ?_
        refine gk_callV (pc := 37) (d := d) (w' := gv_V) (as := [.int x5]) (n := 1) 4 d_Ar_blameCells_37 rfl rfl rfl rfl (Nat.le_of_ble_eq_true rfl) tw_799 tw_800 tw_801 tw_96 cw_Ar_blame hy_Ar_blame (Nat.le_of_ble_eq_true rfl) (p_Ar_blame d v0 x5 h3) fun _ h4 => ?_
        exact p_Ar_blameCells_b40 d (f_Ar_blameCells_b8 fu) q8 v0 v2 v3 h4
      · exact p_Ar_blameCells_b40 d (f_Ar_blameCells_b8 fu) q8 v0 v2 v3 h2
theorem w_Ar_blameCells (d : Nat) (a0 : Option Nat) (a1 : Int32) (h : gk_H) : gk_P gw_V (d + 1) y_Ar_blameCells b_Ar_blameCells 4 none [] (f_Ar_blameCells a0 a1 h) 0 [(0, va_rf a0), (1, .int a1)] [] h := by
  unfold f_Ar_blameCells
  refine gk_aload_n (pc := 0) 0 d_Ar_blameCells_0 rfl ?_
  refine gk_iload_n (pc := 1) 1 d_Ar_blameCells_1 rfl ?_
  refine gk_callV (pc := 2) (d := d) (w' := gv_R) (as := [.int a1]) (n := 1) 4 d_Ar_blameCells_2 rfl rfl rfl rfl (Nat.le_of_ble_eq_true rfl) tw_1055 tw_1034 tw_1035 tw_96 cw_Ar_raw hy_Ar_raw (Nat.le_of_ble_eq_true rfl) (p_Ar_raw d a0 a1 h) fun x1 h1 => ?_
  refine gk_astore_n (pc := 5) (L' := [(2, va_rf x1), (0, va_rf a0), (1, .int a1)]) d_Ar_blameCells_5 (Nat.le_of_ble_eq_true rfl) rfl ?_
  refine gk_iconst (pc := 6) (0 : Int32) d_Ar_blameCells_6 rfl ?_
  refine gk_istore_n (pc := 7) (L' := [(3, .int (0 : Int32)), (2, va_rf x1), (0, va_rf a0), (1, .int a1)]) d_Ar_blameCells_7 (Nat.le_of_ble_eq_true rfl) (by simp [gk_s1, gk_s2, gk_cat_rf, gk_catI, gk_catJ, gk_catD] <;> decide) ?_
  refine gk_weak [2, 1, 0] (L' := [(0, va_rf a0), (2, va_rf x1), (3, .int (0 : Int32))]) rfl ?_
  exact p_Ar_blameCells_b8 d gk_F a0 x1 (0 : Int32) h1
theorem p_Ar_blameCells (d : Nat) (a0 : Option Nat) (a1 : Int32) (h : gk_H) : ∀ r h1, f_Ar_blameCells a0 a1 h = some (r, h1) → gk_M (d + 1) y_Ar_blameCells b_Ar_blameCells 4 none [va_rf a0, .int a1] h (.inl (gv_V r)) h1 :=
  fun r h1 e => gk_M_of2 (by decide +kernel) (by simp [lv_args, gk_cat_rf, gk_catI, gk_catJ, gk_catD, gv_V, gv_I, gv_J, gv_D, gv_R]) (by simp [lg_sl, gk_cat_rf, gk_catI, gk_catJ, gk_catD, gv_V, gv_I, gv_J, gv_D, gv_R]) (w_Ar_blameCells d a0 a1 h r h1 e)
theorem d_Su_productAt_0 : decode b_Su_productAt 0 = .ok (.dconst 1, 1) := by decide +kernel
theorem d_Su_productAt_1 : decode b_Su_productAt 1 = .ok (.dstore_n 2, 1) := by decide +kernel
theorem d_Su_productAt_2 : decode b_Su_productAt 2 = .ok (.iconst 0, 1) := by decide +kernel
theorem d_Su_productAt_3 : decode b_Su_productAt 3 = .ok (.istore 4, 2) := by decide +kernel
theorem d_Su_productAt_5 : decode b_Su_productAt 5 = .ok (.iload 4, 2) := by decide +kernel
theorem d_Su_productAt_7 : decode b_Su_productAt 7 = .ok (.aload_n 0, 1) := by decide +kernel
theorem d_Su_productAt_8 : decode b_Su_productAt 8 = .ok (.invokevirtual 93, 3) := by decide +kernel
theorem d_Su_productAt_11 : decode b_Su_productAt 11 = .ok (.if_icmp .ge 32, 3) := by decide +kernel
theorem d_Su_productAt_14 : decode b_Su_productAt 14 = .ok (.dload_n 2, 1) := by decide +kernel
theorem d_Su_productAt_15 : decode b_Su_productAt 15 = .ok (.invokestatic 73, 3) := by decide +kernel
theorem d_Su_productAt_18 : decode b_Su_productAt 18 = .ok (.ifCond .eq 25, 3) := by decide +kernel
theorem d_Su_productAt_21 : decode b_Su_productAt 21 = .ok (.dload_n 2, 1) := by decide +kernel
theorem d_Su_productAt_22 : decode b_Su_productAt 22 = .ok (.aload_n 0, 1) := by decide +kernel
theorem d_Su_productAt_23 : decode b_Su_productAt 23 = .ok (.iload 4, 2) := by decide +kernel
theorem d_Su_productAt_25 : decode b_Su_productAt 25 = .ok (.invokevirtual 96, 3) := by decide +kernel
theorem d_Su_productAt_28 : decode b_Su_productAt 28 = .ok (.iload_n 1, 1) := by decide +kernel
theorem d_Su_productAt_29 : decode b_Su_productAt 29 = .ok (.invokevirtual 102, 3) := by decide +kernel
theorem d_Su_productAt_32 : decode b_Su_productAt 32 = .ok (.getfield 89, 3) := by decide +kernel
theorem d_Su_productAt_35 : decode b_Su_productAt 35 = .ok (.dmul, 1) := by decide +kernel
theorem d_Su_productAt_36 : decode b_Su_productAt 36 = .ok (.dstore_n 2, 1) := by decide +kernel
theorem d_Su_productAt_37 : decode b_Su_productAt 37 = .ok (.iinc 4 1, 3) := by decide +kernel
theorem d_Su_productAt_40 : decode b_Su_productAt 40 = .ok (.goto (-35), 3) := by decide +kernel
theorem d_Su_productAt_43 : decode b_Su_productAt 43 = .ok (.dload_n 2, 1) := by decide +kernel
theorem d_Su_productAt_44 : decode b_Su_productAt 44 = .ok (.dreturn, 1) := by decide +kernel
theorem p_Su_productAt_b43 (d : Nat)  (v2 : UInt64) (h : gk_H) : gk_P gw_D (d + 1) y_Su_productAt b_Su_productAt 5 (some .double) [] (f_Su_productAt_b43  v2 h) 43 [(2, .double v2)] [] h := by
  unfold f_Su_productAt_b43
  refine gk_dload_n (pc := 43) 0 d_Su_productAt_43 rfl ?_
  exact gk_dret (pc := 44) rfl d_Su_productAt_44 rfl
theorem p_Su_productAt_b5 (d : Nat)  : ∀ (fu : Nat) (v0 : Option Nat) (v1 : Int32) (v2 : UInt64) (v4 : Int32) (h : gk_H), gk_P gw_D (d + 1) y_Su_productAt b_Su_productAt 5 (some .double) [] (f_Su_productAt_b5  fu v0 v1 v2 v4 h) 5 [(0, va_rf v0), (1, .int v1), (2, .double v2), (4, .int v4)] [] h := by
  intro fu
  induction fu with
  | zero => intros; exact gk_none
  | succ fu q5 =>
    intro v0 v1 v2 v4 h
    rw [f_Su_productAt_b5]
    refine gk_iload (pc := 5) 3 d_Su_productAt_5 rfl ?_
    refine gk_aload_n (pc := 7) 0 d_Su_productAt_7 rfl ?_
    refine gk_callV (pc := 8) (d := d) (w' := gv_I) (as := []) (n := 0) 4 d_Su_productAt_8 rfl rfl rfl rfl (Nat.le_of_ble_eq_true rfl) tw_1029 tw_1030 tw_1031 tw_96 cw_Ar_howMany hy_Ar_howMany (Nat.le_of_ble_eq_true rfl) (p_Ar_howMany d v0 h) fun x1 h1 => ?_
    refine gk_icmp_ge (pc := 11) 43 d_Su_productAt_11 rfl (fun _ => ?_) (fun _ => ?_)
    · refine gk_weak [2] (L' := [(2, .double v2)]) rfl ?_
      exact p_Su_productAt_b43 d v2 h1
    · refine gk_dload_n (pc := 14) 2 d_Su_productAt_14 rfl ?_
      refine gk_callS (pc := 15) (d := d) (w' := gv_I) (as := [.double v2]) (n := 1) d_Su_productAt_15 rfl rfl (Nat.le_of_ble_eq_true rfl) tw_1095 tw_320 tw_97 cw_Va_isFinite hy_Va_isFinite (Nat.le_of_ble_eq_true rfl) (p_Va_isFinite d v2 h1) fun x2 h2 => ?_
      refine gk_if_eq (pc := 18) 43 d_Su_productAt_18 rfl (fun _ => ?_) (fun _ => ?_)
      · refine gk_weak [2] (L' := [(2, .double v2)]) rfl ?_
        exact p_Su_productAt_b43 d v2 h2
      · refine gk_dload_n (pc := 21) 2 d_Su_productAt_21 rfl ?_
        refine gk_aload_n (pc := 22) 0 d_Su_productAt_22 rfl ?_
        refine gk_iload (pc := 23) 3 d_Su_productAt_23 rfl ?_
        refine gk_callV (pc := 25) (d := d) (w' := gv_R) (as := [.int v4]) (n := 1) 4 d_Su_productAt_25 rfl rfl rfl rfl (Nat.le_of_ble_eq_true rfl) tw_1033 tw_1034 tw_1035 tw_96 cw_Ar_raw hy_Ar_raw (Nat.le_of_ble_eq_true rfl) (p_Ar_raw d v0 v4 h2) fun x3 h3 => ?_
        refine gk_iload_n (pc := 28) 1 d_Su_productAt_28 rfl ?_
        refine gk_callV (pc := 29) (d := d) (w' := gv_R) (as := [.int v1]) (n := 1) 2 d_Su_productAt_29 rfl rfl rfl rfl (Nat.le_of_ble_eq_true rfl) tw_1038 tw_780 tw_781 tw_97 cw_Va_cellAt hy_Va_cellAt (Nat.le_of_ble_eq_true rfl) (p_Va_cellAt d x3 v1 h3) fun x4 h4 => ?_
        refine gk_getD (pc := 32) 2 2 d_Su_productAt_32 rfl (Nat.le_of_ble_eq_true rfl) tw_202 fun x5 => ?_
        refine gk_dmulN (pc := 35) d_Su_productAt_35 fun x6 => ?_
        refine gk_dstore_n (pc := 36) (L' := [(2, .double x6), (0, va_rf v0), (1, .int v1), (4, .int v4)]) d_Su_productAt_36 (Nat.le_of_ble_eq_true rfl) rfl ?_
        refine gk_iincN (pc := 37) 3 (1 : Int32) (L' := fun x7 => [(4, .int x7), (2, .double x6), (0, va_rf v0), (1, .int v1)]) d_Su_productAt_37 rfl rfl (Nat.le_of_ble_eq_true rfl) (fun _ => rfl) fun x7 => ?_
        refine gk_goto (pc := 40) 5 d_Su_productAt_40 rfl ?_
        refine gk_weak [2, 3, 1, 0] (L' := [(0, va_rf v0), (1, .int v1), (2, .double x6), (4, .int x7)]) rfl ?_
        exact q5 v0 v1 x6 x7 h4
theorem w_Su_productAt (d : Nat) (a0 : Option Nat) (a1 : Int32) (h : gk_H) : gk_P gw_D (d + 1) y_Su_productAt b_Su_productAt 5 (some .double) [] (f_Su_productAt a0 a1 h) 0 [(0, va_rf a0), (1, .int a1)] [] h := by
  unfold f_Su_productAt
  refine gk_dconst1 (pc := 0) d_Su_productAt_0 ?_
  refine gk_dstore_n (pc := 1) (L' := [(2, .double (0x3ff0000000000000)), (0, va_rf a0), (1, .int a1)]) d_Su_productAt_1 (Nat.le_of_ble_eq_true rfl) rfl ?_
  refine gk_iconst (pc := 2) (0 : Int32) d_Su_productAt_2 rfl ?_
  refine gk_istore (pc := 3) (L' := [(4, .int (0 : Int32)), (2, .double (0x3ff0000000000000)), (0, va_rf a0), (1, .int a1)]) d_Su_productAt_3 (Nat.le_of_ble_eq_true rfl) rfl ?_
  refine gk_weak [2, 3, 1, 0] (L' := [(0, va_rf a0), (1, .int a1), (2, .double (0x3ff0000000000000)), (4, .int (0 : Int32))]) rfl ?_
  exact p_Su_productAt_b5 d gk_F a0 a1 (0x3ff0000000000000) (0 : Int32) h
theorem p_Su_productAt (d : Nat) (a0 : Option Nat) (a1 : Int32) (h : gk_H) : ∀ r h1, f_Su_productAt a0 a1 h = some (r, h1) → gk_M (d + 1) y_Su_productAt b_Su_productAt 5 (some .double) [va_rf a0, .int a1] h (.inl (gv_D r)) h1 :=
  fun r h1 e => gk_M_of2 (by decide +kernel) (by simp [lv_args, gk_cat_rf, gk_catI, gk_catJ, gk_catD, gv_V, gv_I, gv_J, gv_D, gv_R]) (by simp [lg_sl, gk_cat_rf, gk_catI, gk_catJ, gk_catD, gv_V, gv_I, gv_J, gv_D, gv_R]) (w_Su_productAt d a0 a1 h r h1 e)
theorem d_Su_sumOfProducts_0 : decode b_Su_sumOfProducts 0 = .ok (.aload_n 0, 1) := by decide +kernel
theorem d_Su_sumOfProducts_1 : decode b_Su_sumOfProducts 1 = .ok (.iconst 0, 1) := by decide +kernel
theorem d_Su_sumOfProducts_2 : decode b_Su_sumOfProducts 2 = .ok (.invokevirtual 96, 3) := by decide +kernel
theorem d_Su_sumOfProducts_5 : decode b_Su_sumOfProducts 5 = .ok (.astore_n 1, 1) := by decide +kernel
theorem d_Su_sumOfProducts_6 : decode b_Su_sumOfProducts 6 = .ok (.iconst 1, 1) := by decide +kernel
theorem d_Su_sumOfProducts_7 : decode b_Su_sumOfProducts 7 = .ok (.istore_n 2, 1) := by decide +kernel
theorem d_Su_sumOfProducts_8 : decode b_Su_sumOfProducts 8 = .ok (.iconst 0, 1) := by decide +kernel
theorem d_Su_sumOfProducts_9 : decode b_Su_sumOfProducts 9 = .ok (.istore_n 3, 1) := by decide +kernel
theorem d_Su_sumOfProducts_10 : decode b_Su_sumOfProducts 10 = .ok (.iload_n 3, 1) := by decide +kernel
theorem d_Su_sumOfProducts_11 : decode b_Su_sumOfProducts 11 = .ok (.aload_n 0, 1) := by decide +kernel
theorem d_Su_sumOfProducts_12 : decode b_Su_sumOfProducts 12 = .ok (.invokevirtual 93, 3) := by decide +kernel
theorem d_Su_sumOfProducts_15 : decode b_Su_sumOfProducts 15 = .ok (.if_icmp .ge 36, 3) := by decide +kernel
theorem d_Su_sumOfProducts_18 : decode b_Su_sumOfProducts 18 = .ok (.aload_n 0, 1) := by decide +kernel
theorem d_Su_sumOfProducts_19 : decode b_Su_sumOfProducts 19 = .ok (.iload_n 3, 1) := by decide +kernel
theorem d_Su_sumOfProducts_20 : decode b_Su_sumOfProducts 20 = .ok (.invokevirtual 135, 3) := by decide +kernel
theorem d_Su_sumOfProducts_23 : decode b_Su_sumOfProducts 23 = .ok (.iload_n 2, 1) := by decide +kernel
theorem d_Su_sumOfProducts_24 : decode b_Su_sumOfProducts 24 = .ok (.ifCond .eq 19, 3) := by decide +kernel
theorem d_Su_sumOfProducts_27 : decode b_Su_sumOfProducts 27 = .ok (.aload_n 1, 1) := by decide +kernel
theorem d_Su_sumOfProducts_28 : decode b_Su_sumOfProducts 28 = .ok (.aload_n 0, 1) := by decide +kernel
theorem d_Su_sumOfProducts_29 : decode b_Su_sumOfProducts 29 = .ok (.iload_n 3, 1) := by decide +kernel
theorem d_Su_sumOfProducts_30 : decode b_Su_sumOfProducts 30 = .ok (.invokevirtual 96, 3) := by decide +kernel
theorem d_Su_sumOfProducts_33 : decode b_Su_sumOfProducts 33 = .ok (.invokevirtual 138, 3) := by decide +kernel
theorem d_Su_sumOfProducts_36 : decode b_Su_sumOfProducts 36 = .ok (.ifCond .eq 7, 3) := by decide +kernel
theorem d_Su_sumOfProducts_39 : decode b_Su_sumOfProducts 39 = .ok (.iconst 1, 1) := by decide +kernel
theorem d_Su_sumOfProducts_40 : decode b_Su_sumOfProducts 40 = .ok (.goto 4, 3) := by decide +kernel
theorem d_Su_sumOfProducts_43 : decode b_Su_sumOfProducts 43 = .ok (.iconst 0, 1) := by decide +kernel
theorem d_Su_sumOfProducts_44 : decode b_Su_sumOfProducts 44 = .ok (.istore_n 2, 1) := by decide +kernel
theorem d_Su_sumOfProducts_45 : decode b_Su_sumOfProducts 45 = .ok (.iinc 3 1, 3) := by decide +kernel
theorem d_Su_sumOfProducts_48 : decode b_Su_sumOfProducts 48 = .ok (.goto (-38), 3) := by decide +kernel
theorem d_Su_sumOfProducts_51 : decode b_Su_sumOfProducts 51 = .ok (.iload_n 2, 1) := by decide +kernel
theorem d_Su_sumOfProducts_52 : decode b_Su_sumOfProducts 52 = .ok (.ifCond .ne 8, 3) := by decide +kernel
theorem d_Su_sumOfProducts_55 : decode b_Su_sumOfProducts 55 = .ok (.iconst 3, 1) := by decide +kernel
theorem d_Su_sumOfProducts_56 : decode b_Su_sumOfProducts 56 = .ok (.invokestatic 69, 3) := by decide +kernel
theorem d_Su_sumOfProducts_59 : decode b_Su_sumOfProducts 59 = .ok (.areturn, 1) := by decide +kernel
theorem d_Su_sumOfProducts_60 : decode b_Su_sumOfProducts 60 = .ok (.dconst 0, 1) := by decide +kernel
theorem d_Su_sumOfProducts_61 : decode b_Su_sumOfProducts 61 = .ok (.dstore_n 3, 1) := by decide +kernel
theorem d_Su_sumOfProducts_62 : decode b_Su_sumOfProducts 62 = .ok (.iconst 0, 1) := by decide +kernel
theorem d_Su_sumOfProducts_63 : decode b_Su_sumOfProducts 63 = .ok (.istore 5, 2) := by decide +kernel
theorem d_Su_sumOfProducts_65 : decode b_Su_sumOfProducts 65 = .ok (.iload 5, 2) := by decide +kernel
theorem d_Su_sumOfProducts_67 : decode b_Su_sumOfProducts 67 = .ok (.aload_n 1, 1) := by decide +kernel
theorem d_Su_sumOfProducts_68 : decode b_Su_sumOfProducts 68 = .ok (.invokevirtual 99, 3) := by decide +kernel
theorem d_Su_sumOfProducts_71 : decode b_Su_sumOfProducts 71 = .ok (.if_icmp .ge 43, 3) := by decide +kernel
theorem d_Su_sumOfProducts_74 : decode b_Su_sumOfProducts 74 = .ok (.dload_n 3, 1) := by decide +kernel
theorem d_Su_sumOfProducts_75 : decode b_Su_sumOfProducts 75 = .ok (.invokestatic 73, 3) := by decide +kernel
theorem d_Su_sumOfProducts_78 : decode b_Su_sumOfProducts 78 = .ok (.ifCond .eq 36, 3) := by decide +kernel
theorem d_Su_sumOfProducts_81 : decode b_Su_sumOfProducts 81 = .ok (.aload_n 0, 1) := by decide +kernel
theorem d_Su_sumOfProducts_82 : decode b_Su_sumOfProducts 82 = .ok (.iload 5, 2) := by decide +kernel
theorem d_Su_sumOfProducts_84 : decode b_Su_sumOfProducts 84 = .ok (.invokestatic 142, 3) := by decide +kernel
theorem d_Su_sumOfProducts_87 : decode b_Su_sumOfProducts 87 = .ok (.dstore 6, 2) := by decide +kernel
theorem d_Su_sumOfProducts_89 : decode b_Su_sumOfProducts 89 = .ok (.dload 6, 2) := by decide +kernel
theorem d_Su_sumOfProducts_91 : decode b_Su_sumOfProducts 91 = .ok (.invokestatic 73, 3) := by decide +kernel
theorem d_Su_sumOfProducts_94 : decode b_Su_sumOfProducts 94 = .ok (.ifCond .ne 9, 3) := by decide +kernel
theorem d_Su_sumOfProducts_97 : decode b_Su_sumOfProducts 97 = .ok (.bipush 6, 2) := by decide +kernel
theorem d_Su_sumOfProducts_99 : decode b_Su_sumOfProducts 99 = .ok (.invokestatic 69, 3) := by decide +kernel
theorem d_Su_sumOfProducts_102 : decode b_Su_sumOfProducts 102 = .ok (.areturn, 1) := by decide +kernel
theorem d_Su_sumOfProducts_103 : decode b_Su_sumOfProducts 103 = .ok (.dload_n 3, 1) := by decide +kernel
theorem d_Su_sumOfProducts_104 : decode b_Su_sumOfProducts 104 = .ok (.dload 6, 2) := by decide +kernel
theorem d_Su_sumOfProducts_106 : decode b_Su_sumOfProducts 106 = .ok (.dadd, 1) := by decide +kernel
theorem d_Su_sumOfProducts_107 : decode b_Su_sumOfProducts 107 = .ok (.dstore_n 3, 1) := by decide +kernel
theorem d_Su_sumOfProducts_108 : decode b_Su_sumOfProducts 108 = .ok (.iinc 5 1, 3) := by decide +kernel
theorem d_Su_sumOfProducts_111 : decode b_Su_sumOfProducts 111 = .ok (.goto (-46), 3) := by decide +kernel
theorem d_Su_sumOfProducts_114 : decode b_Su_sumOfProducts 114 = .ok (.dload_n 3, 1) := by decide +kernel
theorem d_Su_sumOfProducts_115 : decode b_Su_sumOfProducts 115 = .ok (.invokestatic 38, 3) := by decide +kernel
theorem d_Su_sumOfProducts_118 : decode b_Su_sumOfProducts 118 = .ok (.areturn, 1) := by decide +kernel
theorem p_Su_sumOfProducts_b114 (d : Nat)  (v3 : UInt64) (h : gk_H) : gk_P gw_R (d + 3) y_Su_sumOfProducts b_Su_sumOfProducts 8 (some (.object "ValueAlgebra$Value")) [] (f_Su_sumOfProducts_b114  v3 h) 114 [(3, .double v3)] [] h := by
  unfold f_Su_sumOfProducts_b114
  refine gk_dload_n (pc := 114) 0 d_Su_sumOfProducts_114 rfl ?_
  refine gk_callS (pc := 115) (d := (d + 2)) (w' := gv_R) (as := [.double v3]) (n := 1) d_Su_sumOfProducts_115 rfl rfl (Nat.le_of_ble_eq_true rfl) tw_1047 tw_317 tw_97 cw_Va_ofNumber hy_Va_ofNumber (Nat.le_of_ble_eq_true rfl) (p_Va_ofNumber d v3 h) fun x1 h1 => ?_
  exact gk_aret (pc := 118) rfl d_Su_sumOfProducts_118 rfl (Or.inl ⟨_, rfl⟩)
theorem p_Su_sumOfProducts_b65 (d : Nat)  : ∀ (fu : Nat) (v0 : Option Nat) (v1 : Option Nat) (v3 : UInt64) (v5 : Int32) (h : gk_H), gk_P gw_R (d + 3) y_Su_sumOfProducts b_Su_sumOfProducts 8 (some (.object "ValueAlgebra$Value")) [] (f_Su_sumOfProducts_b65  fu v0 v1 v3 v5 h) 65 [(0, va_rf v0), (1, va_rf v1), (3, .double v3), (5, .int v5)] [] h := by
  intro fu
  induction fu with
  | zero => intros; exact gk_none
  | succ fu q65 =>
    intro v0 v1 v3 v5 h
    rw [f_Su_sumOfProducts_b65]
    refine gk_iload (pc := 65) 3 d_Su_sumOfProducts_65 rfl ?_
    refine gk_aload_n (pc := 67) 1 d_Su_sumOfProducts_67 rfl ?_
    refine gk_callV (pc := 68) (d := (d + 2)) (w' := gv_I) (as := []) (n := 0) 2 d_Su_sumOfProducts_68 rfl rfl rfl rfl (Nat.le_of_ble_eq_true rfl) tw_1037 tw_776 tw_777 tw_97 cw_Va_howManyCells hy_Va_howManyCells (Nat.le_of_ble_eq_true rfl) (p_Va_howManyCells (d + 2) v1 h) fun x1 h1 => ?_
    refine gk_icmp_ge (pc := 71) 114 d_Su_sumOfProducts_71 rfl (fun _ => ?_) (fun _ => ?_)
    · refine gk_weak [2] (L' := [(3, .double v3)]) rfl ?_
      exact p_Su_sumOfProducts_b114 d v3 h1
    · refine gk_dload_n (pc := 74) 2 d_Su_sumOfProducts_74 rfl ?_
      refine gk_callS (pc := 75) (d := (d + 2)) (w' := gv_I) (as := [.double v3]) (n := 1) d_Su_sumOfProducts_75 rfl rfl (Nat.le_of_ble_eq_true rfl) tw_1095 tw_320 tw_97 cw_Va_isFinite hy_Va_isFinite (Nat.le_of_ble_eq_true rfl) (p_Va_isFinite (d + 2) v3 h1) fun x2 h2 => ?_
      refine gk_if_eq (pc := 78) 114 d_Su_sumOfProducts_78 rfl (fun _ => ?_) (fun _ => ?_)
      · refine gk_weak [2] (L' := [(3, .double v3)]) rfl ?_
        exact p_Su_sumOfProducts_b114 d v3 h2
      · refine gk_aload_n (pc := 81) 0 d_Su_sumOfProducts_81 rfl ?_
        refine gk_iload (pc := 82) 3 d_Su_sumOfProducts_82 rfl ?_
        refine gk_callS (pc := 84) (d := (d + 2)) (w' := gv_D) (as := [va_rf v0, .int v5]) (n := 2) d_Su_sumOfProducts_84 rfl rfl (Nat.le_of_ble_eq_true rfl) tw_1096 tw_1097 tw_119 cw_Su_productAt hy_Su_productAt (Nat.le_of_ble_eq_true rfl) (p_Su_productAt (d + 1) v0 v5 h2) fun x3 h3 => ?_
        refine gk_dstore (pc := 87) (L' := [(6, .double x3), (0, va_rf v0), (1, va_rf v1), (3, .double v3), (5, .int v5)]) d_Su_sumOfProducts_87 (Nat.le_of_ble_eq_true rfl) rfl ?_
        refine gk_dload (pc := 89) 0 d_Su_sumOfProducts_89 rfl ?_
        refine gk_callS (pc := 91) (d := (d + 2)) (w' := gv_I) (as := [.double x3]) (n := 1) d_Su_sumOfProducts_91 rfl rfl (Nat.le_of_ble_eq_true rfl) tw_1095 tw_320 tw_97 cw_Va_isFinite hy_Va_isFinite (Nat.le_of_ble_eq_true rfl) (p_Va_isFinite (d + 2) x3 h3) fun x4 h4 => ?_
        refine gk_if_ne (pc := 94) 103 d_Su_sumOfProducts_94 rfl (fun _ => ?_) (fun _ => ?_)
        · refine gk_bipush (pc := 97) (6 : Int32) d_Su_sumOfProducts_97 rfl ?_
          refine gk_callS (pc := 99) (d := (d + 2)) (w' := gv_R) (as := [.int (6 : Int32)]) (n := 1) d_Su_sumOfProducts_99 rfl rfl (Nat.le_of_ble_eq_true rfl) tw_1074 tw_236 tw_97 cw_Va_ofError hy_Va_ofError (Nat.le_of_ble_eq_true rfl) (p_Va_ofError d (6 : Int32) h4) fun x5 h5 => ?_
          exact gk_aret (pc := 102) rfl d_Su_sumOfProducts_102 rfl (Or.inl ⟨_, rfl⟩)
        · refine gk_dload_n (pc := 103) 3 d_Su_sumOfProducts_103 rfl ?_
          refine gk_dload (pc := 104) 0 d_Su_sumOfProducts_104 rfl ?_
          refine gk_daddN (pc := 106) d_Su_sumOfProducts_106 fun x6 => ?_
          refine gk_dstore_n (pc := 107) (L' := [(3, .double x6), (6, .double x3), (0, va_rf v0), (1, va_rf v1), (5, .int v5)]) d_Su_sumOfProducts_107 (Nat.le_of_ble_eq_true rfl) rfl ?_
          refine gk_iincN (pc := 108) 4 (1 : Int32) (L' := fun x7 => [(5, .int x7), (3, .double x6), (6, .double x3), (0, va_rf v0), (1, va_rf v1)]) d_Su_sumOfProducts_108 rfl rfl (Nat.le_of_ble_eq_true rfl) (fun _ => rfl) fun x7 => ?_
          refine gk_goto (pc := 111) 65 d_Su_sumOfProducts_111 rfl ?_
          refine gk_weak [3, 4, 1, 0] (L' := [(0, va_rf v0), (1, va_rf v1), (3, .double x6), (5, .int x7)]) rfl ?_
          exact q65 v0 v1 x6 x7 h4
theorem p_Su_sumOfProducts_b44 (d : Nat) (b10 : Option Nat → Option Nat → Int32 → Int32 → gk_H → Option ((Option Nat) × gk_H)) (q10 : ∀ (v0 : Option Nat) (v1 : Option Nat) (v2 : Int32) (v3 : Int32) (h : gk_H), gk_P gw_R (d + 3) y_Su_sumOfProducts b_Su_sumOfProducts 8 (some (.object "ValueAlgebra$Value")) [] (b10 v0 v1 v2 v3 h) 10 [(0, va_rf v0), (1, va_rf v1), (2, .int v2), (3, .int v3)] [] h) (v0 : Option Nat) (v1 : Option Nat) (v3 : Int32) (s0 : Int32) (h : gk_H) : gk_P gw_R (d + 3) y_Su_sumOfProducts b_Su_sumOfProducts 8 (some (.object "ValueAlgebra$Value")) [] (f_Su_sumOfProducts_b44 b10 v0 v1 v3 s0 h) 44 [(0, va_rf v0), (1, va_rf v1), (3, .int v3)] [.int s0] h := by
  unfold f_Su_sumOfProducts_b44
  refine gk_istore_n (pc := 44) (L' := [(2, .int s0), (0, va_rf v0), (1, va_rf v1), (3, .int v3)]) d_Su_sumOfProducts_44 (Nat.le_of_ble_eq_true rfl) (by simp [gk_s1, gk_s2, gk_cat_rf, gk_catI, gk_catJ, gk_catD] <;> decide) ?_
  refine gk_iincN (pc := 45) 3 (1 : Int32) (L' := fun x1 => [(3, .int x1), (2, .int s0), (0, va_rf v0), (1, va_rf v1)]) d_Su_sumOfProducts_45 rfl rfl (Nat.le_of_ble_eq_true rfl) (fun _ => rfl) fun x1 => ?_
  refine gk_goto (pc := 48) 10 d_Su_sumOfProducts_48 rfl ?_
  refine gk_weak [2, 3, 1, 0] (L' := [(0, va_rf v0), (1, va_rf v1), (2, .int s0), (3, .int x1)]) rfl ?_
  exact q10 v0 v1 s0 x1 h
theorem p_Su_sumOfProducts_b43 (d : Nat) (b10 : Option Nat → Option Nat → Int32 → Int32 → gk_H → Option ((Option Nat) × gk_H)) (q10 : ∀ (v0 : Option Nat) (v1 : Option Nat) (v2 : Int32) (v3 : Int32) (h : gk_H), gk_P gw_R (d + 3) y_Su_sumOfProducts b_Su_sumOfProducts 8 (some (.object "ValueAlgebra$Value")) [] (b10 v0 v1 v2 v3 h) 10 [(0, va_rf v0), (1, va_rf v1), (2, .int v2), (3, .int v3)] [] h) (v0 : Option Nat) (v1 : Option Nat) (v3 : Int32) (h : gk_H) : gk_P gw_R (d + 3) y_Su_sumOfProducts b_Su_sumOfProducts 8 (some (.object "ValueAlgebra$Value")) [] (f_Su_sumOfProducts_b43 b10 v0 v1 v3 h) 43 [(0, va_rf v0), (1, va_rf v1), (3, .int v3)] [] h := by
  unfold f_Su_sumOfProducts_b43
  refine gk_iconst (pc := 43) (0 : Int32) d_Su_sumOfProducts_43 rfl ?_
  exact p_Su_sumOfProducts_b44 d b10 q10 v0 v1 v3 (0 : Int32) h
theorem p_Su_sumOfProducts_b10 (d : Nat)  : ∀ (fu : Nat) (v0 : Option Nat) (v1 : Option Nat) (v2 : Int32) (v3 : Int32) (h : gk_H), gk_P gw_R (d + 3) y_Su_sumOfProducts b_Su_sumOfProducts 8 (some (.object "ValueAlgebra$Value")) [] (f_Su_sumOfProducts_b10  fu v0 v1 v2 v3 h) 10 [(0, va_rf v0), (1, va_rf v1), (2, .int v2), (3, .int v3)] [] h := by
  intro fu
  induction fu with
  | zero => intros; exact gk_none
  | succ fu q10 =>
    intro v0 v1 v2 v3 h
    rw [f_Su_sumOfProducts_b10]
    refine gk_iload_n (pc := 10) 3 d_Su_sumOfProducts_10 rfl ?_
    refine gk_aload_n (pc := 11) 0 d_Su_sumOfProducts_11 rfl ?_
    refine gk_callV (pc := 12) (d := (d + 2)) (w' := gv_I) (as := []) (n := 0) 4 d_Su_sumOfProducts_12 rfl rfl rfl rfl (Nat.le_of_ble_eq_true rfl) tw_1029 tw_1030 tw_1031 tw_96 cw_Ar_howMany hy_Ar_howMany (Nat.le_of_ble_eq_true rfl) (p_Ar_howMany (d + 2) v0 h) fun x1 h1 => ?_
    refine gk_icmp_ge (pc := 15) 51 d_Su_sumOfProducts_15 rfl (fun _ => ?_) (fun _ => ?_)
    · refine gk_iload_n (pc := 51) 2 d_Su_sumOfProducts_51 rfl ?_
      refine gk_if_ne (pc := 52) 60 d_Su_sumOfProducts_52 rfl (fun _ => ?_) (fun _ => ?_)
      · refine gk_iconst (pc := 55) (3 : Int32) d_Su_sumOfProducts_55 rfl ?_
        refine gk_callS (pc := 56) (d := (d + 2)) (w' := gv_R) (as := [.int (3 : Int32)]) (n := 1) d_Su_sumOfProducts_56 rfl rfl (Nat.le_of_ble_eq_true rfl) tw_1074 tw_236 tw_97 cw_Va_ofError hy_Va_ofError (Nat.le_of_ble_eq_true rfl) (p_Va_ofError d (3 : Int32) h1) fun x2 h2 => ?_
        exact gk_aret (pc := 59) rfl d_Su_sumOfProducts_59 rfl (Or.inl ⟨_, rfl⟩)
      · refine gk_dconst0 (pc := 60) d_Su_sumOfProducts_60 ?_
        refine gk_dstore_n (pc := 61) (L' := [(3, .double (0x0000000000000000)), (0, va_rf v0), (1, va_rf v1), (2, .int v2)]) d_Su_sumOfProducts_61 (Nat.le_of_ble_eq_true rfl) rfl ?_
        refine gk_iconst (pc := 62) (0 : Int32) d_Su_sumOfProducts_62 rfl ?_
        refine gk_istore (pc := 63) (L' := [(5, .int (0 : Int32)), (3, .double (0x0000000000000000)), (0, va_rf v0), (1, va_rf v1), (2, .int v2)]) d_Su_sumOfProducts_63 (Nat.le_of_ble_eq_true rfl) rfl ?_
        refine gk_weak [2, 3, 1, 0] (L' := [(0, va_rf v0), (1, va_rf v1), (3, .double (0x0000000000000000)), (5, .int (0 : Int32))]) rfl ?_
        exact p_Su_sumOfProducts_b65 d gk_F v0 v1 (0x0000000000000000) (0 : Int32) h1
    · refine gk_aload_n (pc := 18) 0 d_Su_sumOfProducts_18 rfl ?_
      refine gk_iload_n (pc := 19) 3 d_Su_sumOfProducts_19 rfl ?_
      refine gk_callV (pc := 20) (d := (d + 2)) (w' := gv_V) (as := [.int v3]) (n := 1) 4 d_Su_sumOfProducts_20 rfl rfl rfl rfl (Nat.le_of_ble_eq_true rfl) tw_1090 tw_1057 tw_1058 tw_96 cw_Ar_blameCells hy_Ar_blameCells (Nat.le_of_ble_eq_true rfl) (p_Ar_blameCells (d + 1) v0 v3 h1) fun _ h3 => ?_
      refine gk_iload_n (pc := 23) 2 d_Su_sumOfProducts_23 rfl ?_
      refine gk_if_eq (pc := 24) 43 d_Su_sumOfProducts_24 rfl (fun _ => ?_) (fun _ => ?_)
      · refine gk_weak [0, 1, 3] (L' := [(0, va_rf v0), (1, va_rf v1), (3, .int v3)]) rfl ?_
        exact p_Su_sumOfProducts_b43 d (f_Su_sumOfProducts_b10 fu) q10 v0 v1 v3 h3
      · refine gk_aload_n (pc := 27) 1 d_Su_sumOfProducts_27 rfl ?_
        refine gk_aload_n (pc := 28) 0 d_Su_sumOfProducts_28 rfl ?_
        refine gk_iload_n (pc := 29) 3 d_Su_sumOfProducts_29 rfl ?_
        refine gk_callV (pc := 30) (d := (d + 2)) (w' := gv_R) (as := [.int v3]) (n := 1) 4 d_Su_sumOfProducts_30 rfl rfl rfl rfl (by simp [gk_cat_rf, gk_catI, gk_catJ, gk_catD, gv_V, gv_I, gv_J, gv_D, gv_R]) tw_1033 tw_1034 tw_1035 tw_96 cw_Ar_raw hy_Ar_raw (Nat.le_of_ble_eq_true rfl) (p_Ar_raw (d + 2) v0 v3 h3) fun x3 h4 => ?_
        refine gk_callV (pc := 33) (d := (d + 2)) (w' := gv_I) (as := [va_rf x3]) (n := 1) 2 d_Su_sumOfProducts_33 rfl rfl rfl rfl (Nat.le_of_ble_eq_true rfl) tw_1091 tw_1092 tw_1093 tw_97 cw_Va_isOfShape hy_Va_isOfShape (Nat.le_of_ble_eq_true rfl) (p_Va_isOfShape (d + 2) v1 x3 h4) fun x4 h5 => ?_
        refine gk_if_eq (pc := 36) 43 d_Su_sumOfProducts_36 rfl (fun _ => ?_) (fun _ => ?_)
        · refine gk_weak [0, 1, 3] (L' := [(0, va_rf v0), (1, va_rf v1), (3, .int v3)]) rfl ?_
          exact p_Su_sumOfProducts_b43 d (f_Su_sumOfProducts_b10 fu) q10 v0 v1 v3 h5
        · refine gk_iconst (pc := 39) (1 : Int32) d_Su_sumOfProducts_39 rfl ?_
          refine gk_goto (pc := 40) 44 d_Su_sumOfProducts_40 rfl ?_
          refine gk_weak [0, 1, 3] (L' := [(0, va_rf v0), (1, va_rf v1), (3, .int v3)]) rfl ?_
          exact p_Su_sumOfProducts_b44 d (f_Su_sumOfProducts_b10 fu) q10 v0 v1 v3 (1 : Int32) h5
theorem w_Su_sumOfProducts (d : Nat) (a0 : Option Nat) (h : gk_H) : gk_P gw_R (d + 3) y_Su_sumOfProducts b_Su_sumOfProducts 8 (some (.object "ValueAlgebra$Value")) [] (f_Su_sumOfProducts a0 h) 0 [(0, va_rf a0)] [] h := by
  unfold f_Su_sumOfProducts
  refine gk_aload_n (pc := 0) 0 d_Su_sumOfProducts_0 rfl ?_
  refine gk_iconst (pc := 1) (0 : Int32) d_Su_sumOfProducts_1 rfl ?_
  refine gk_callV (pc := 2) (d := (d + 2)) (w' := gv_R) (as := [.int (0 : Int32)]) (n := 1) 4 d_Su_sumOfProducts_2 rfl rfl rfl rfl (Nat.le_of_ble_eq_true rfl) tw_1033 tw_1034 tw_1035 tw_96 cw_Ar_raw hy_Ar_raw (Nat.le_of_ble_eq_true rfl) (p_Ar_raw (d + 2) a0 (0 : Int32) h) fun x1 h1 => ?_
  refine gk_astore_n (pc := 5) (L' := [(1, va_rf x1), (0, va_rf a0)]) d_Su_sumOfProducts_5 (Nat.le_of_ble_eq_true rfl) (by simp [gk_s1, gk_s2, gk_cat_rf, gk_catI, gk_catJ, gk_catD] <;> decide) ?_
  refine gk_iconst (pc := 6) (1 : Int32) d_Su_sumOfProducts_6 rfl ?_
  refine gk_istore_n (pc := 7) (L' := [(2, .int (1 : Int32)), (1, va_rf x1), (0, va_rf a0)]) d_Su_sumOfProducts_7 (Nat.le_of_ble_eq_true rfl) (by simp [gk_s1, gk_s2, gk_cat_rf, gk_catI, gk_catJ, gk_catD] <;> decide) ?_
  refine gk_iconst (pc := 8) (0 : Int32) d_Su_sumOfProducts_8 rfl ?_
  refine gk_istore_n (pc := 9) (L' := [(3, .int (0 : Int32)), (2, .int (1 : Int32)), (1, va_rf x1), (0, va_rf a0)]) d_Su_sumOfProducts_9 (Nat.le_of_ble_eq_true rfl) rfl ?_
  refine gk_weak [3, 2, 1, 0] (L' := [(0, va_rf a0), (1, va_rf x1), (2, .int (1 : Int32)), (3, .int (0 : Int32))]) rfl ?_
  exact p_Su_sumOfProducts_b10 d gk_F a0 x1 (1 : Int32) (0 : Int32) h1
theorem p_Su_sumOfProducts (d : Nat) (a0 : Option Nat) (h : gk_H) : ∀ r h1, f_Su_sumOfProducts a0 h = some (r, h1) → gk_M (d + 3) y_Su_sumOfProducts b_Su_sumOfProducts 8 (some (.object "ValueAlgebra$Value")) [va_rf a0] h (.inl (gv_R r)) h1 :=
  fun r h1 e => gk_M_of2 (by decide +kernel) (by simp [lv_args, gk_cat_rf, gk_catI, gk_catJ, gk_catD, gv_V, gv_I, gv_J, gv_D, gv_R]) (by simp [lg_sl, gk_cat_rf, gk_catI, gk_catJ, gk_catD, gv_V, gv_I, gv_J, gv_D, gv_R]) (w_Su_sumOfProducts d a0 h r h1 e)
theorem d_Ar_addToRow_0 : decode b_Ar_addToRow 0 = .ok (.aload_n 0, 1) := by decide +kernel
theorem d_Ar_addToRow_1 : decode b_Ar_addToRow 1 = .ok (.getfield 60, 3) := by decide +kernel
theorem d_Ar_addToRow_4 : decode b_Ar_addToRow 4 = .ok (.aload_n 0, 1) := by decide +kernel
theorem d_Ar_addToRow_5 : decode b_Ar_addToRow 5 = .ok (.getfield 20, 3) := by decide +kernel
theorem d_Ar_addToRow_8 : decode b_Ar_addToRow 8 = .ok (.arraylength, 1) := by decide +kernel
theorem d_Ar_addToRow_9 : decode b_Ar_addToRow 9 = .ok (.if_icmp .ge 23, 3) := by decide +kernel
theorem d_Ar_addToRow_12 : decode b_Ar_addToRow 12 = .ok (.aload_n 0, 1) := by decide +kernel
theorem d_Ar_addToRow_13 : decode b_Ar_addToRow 13 = .ok (.getfield 20, 3) := by decide +kernel
theorem d_Ar_addToRow_16 : decode b_Ar_addToRow 16 = .ok (.aload_n 0, 1) := by decide +kernel
theorem d_Ar_addToRow_17 : decode b_Ar_addToRow 17 = .ok (.getfield 60, 3) := by decide +kernel
theorem d_Ar_addToRow_20 : decode b_Ar_addToRow 20 = .ok (.dload_n 1, 1) := by decide +kernel
theorem d_Ar_addToRow_21 : decode b_Ar_addToRow 21 = .ok (.dastore, 1) := by decide +kernel
theorem d_Ar_addToRow_22 : decode b_Ar_addToRow 22 = .ok (.aload_n 0, 1) := by decide +kernel
theorem d_Ar_addToRow_23 : decode b_Ar_addToRow 23 = .ok (.dup, 1) := by decide +kernel
theorem d_Ar_addToRow_24 : decode b_Ar_addToRow 24 = .ok (.getfield 60, 3) := by decide +kernel
theorem d_Ar_addToRow_27 : decode b_Ar_addToRow 27 = .ok (.iconst 1, 1) := by decide +kernel
theorem d_Ar_addToRow_28 : decode b_Ar_addToRow 28 = .ok (.iadd, 1) := by decide +kernel
theorem d_Ar_addToRow_29 : decode b_Ar_addToRow 29 = .ok (.putfield 60, 3) := by decide +kernel
theorem d_Ar_addToRow_32 : decode b_Ar_addToRow 32 = .ok (.return_, 1) := by decide +kernel
theorem p_Ar_addToRow_b32 (d : Nat)   (h : gk_H) : gk_P gw_V d y_Ar_addToRow b_Ar_addToRow 3 none [] (f_Ar_addToRow_b32   h) 32 [] [] h := by
  unfold f_Ar_addToRow_b32
  exact gk_vret (pc := 32) rfl d_Ar_addToRow_32 rfl
theorem w_Ar_addToRow (d : Nat) (a0 : Option Nat) (a1 : UInt64) (h : gk_H) : gk_P gw_V d y_Ar_addToRow b_Ar_addToRow 3 none [] (f_Ar_addToRow a0 a1 h) 0 [(0, va_rf a0), (1, .double a1)] [] h := by
  unfold f_Ar_addToRow
  refine gk_aload_n (pc := 0) 0 d_Ar_addToRow_0 rfl ?_
  refine gk_getI (pc := 1) 4 5 d_Ar_addToRow_1 rfl (Nat.le_of_ble_eq_true rfl) tw_265 fun x1 => ?_
  refine gk_aload_n (pc := 4) 0 d_Ar_addToRow_4 rfl ?_
  refine gk_getR (pc := 5) 4 4 d_Ar_addToRow_5 rfl (Nat.le_of_ble_eq_true rfl) tw_264 fun x2 => ?_
  refine gk_alen (pc := 8) d_Ar_addToRow_8 fun x3 => ?_
  refine gk_icmp_ge (pc := 9) 32 d_Ar_addToRow_9 rfl (fun _ => ?_) (fun _ => ?_)
  · refine gk_weak [] (L' := []) rfl ?_
    exact p_Ar_addToRow_b32 d h
  · refine gk_aload_n (pc := 12) 0 d_Ar_addToRow_12 rfl ?_
    refine gk_getR (pc := 13) 4 4 d_Ar_addToRow_13 rfl (Nat.le_of_ble_eq_true rfl) tw_264 fun x4 => ?_
    refine gk_aload_n (pc := 16) 0 d_Ar_addToRow_16 rfl ?_
    refine gk_getI (pc := 17) 4 5 d_Ar_addToRow_17 rfl (Nat.le_of_ble_eq_true rfl) tw_265 fun x5 => ?_
    refine gk_dload_n (pc := 20) 1 d_Ar_addToRow_20 rfl ?_
    refine gk_dast (pc := 21) d_Ar_addToRow_21 fun h1 => ?_
    refine gk_aload_n (pc := 22) 0 d_Ar_addToRow_22 rfl ?_
    refine gk_dup (pc := 23) d_Ar_addToRow_23 (gk_cat_rf _) ?_
    refine gk_getI (pc := 24) 4 5 d_Ar_addToRow_24 rfl (Nat.le_of_ble_eq_true rfl) tw_265 fun x6 => ?_
    refine gk_iconst (pc := 27) (1 : Int32) d_Ar_addToRow_27 rfl ?_
    refine gk_iadd (pc := 28) d_Ar_addToRow_28 ?_
    refine gk_putfield (pc := 29) 4 5 d_Ar_addToRow_29 rfl (Nat.le_of_ble_eq_true rfl) tw_265 (Or.inl rfl) fun h2 => ?_
    refine gk_weak [] (L' := []) rfl ?_
    exact p_Ar_addToRow_b32 d h2
theorem p_Ar_addToRow (d : Nat) (a0 : Option Nat) (a1 : UInt64) (h : gk_H) : ∀ r h1, f_Ar_addToRow a0 a1 h = some (r, h1) → gk_M d y_Ar_addToRow b_Ar_addToRow 3 none [va_rf a0, .double a1] h (.inl (gv_V r)) h1 :=
  fun r h1 e => gk_M_of2 (by decide +kernel) (by simp [lv_args, gk_cat_rf, gk_catI, gk_catJ, gk_catD, gv_V, gv_I, gv_J, gv_D, gv_R]) (by simp [lg_sl, gk_cat_rf, gk_catI, gk_catJ, gk_catD, gv_V, gv_I, gv_J, gv_D, gv_R]) (w_Ar_addToRow d a0 a1 h r h1 e)
theorem d_Ar_gatherCells_0 : decode b_Ar_gatherCells 0 = .ok (.aload_n 0, 1) := by decide +kernel
theorem d_Ar_gatherCells_1 : decode b_Ar_gatherCells 1 = .ok (.iload_n 1, 1) := by decide +kernel
theorem d_Ar_gatherCells_2 : decode b_Ar_gatherCells 2 = .ok (.invokevirtual 131, 3) := by decide +kernel
theorem d_Ar_gatherCells_5 : decode b_Ar_gatherCells 5 = .ok (.astore_n 2, 1) := by decide +kernel
theorem d_Ar_gatherCells_6 : decode b_Ar_gatherCells 6 = .ok (.aload_n 0, 1) := by decide +kernel
theorem d_Ar_gatherCells_7 : decode b_Ar_gatherCells 7 = .ok (.iload_n 1, 1) := by decide +kernel
theorem d_Ar_gatherCells_8 : decode b_Ar_gatherCells 8 = .ok (.invokevirtual 141, 3) := by decide +kernel
theorem d_Ar_gatherCells_11 : decode b_Ar_gatherCells 11 = .ok (.iconst 0, 1) := by decide +kernel
theorem d_Ar_gatherCells_12 : decode b_Ar_gatherCells 12 = .ok (.istore_n 3, 1) := by decide +kernel
theorem d_Ar_gatherCells_13 : decode b_Ar_gatherCells 13 = .ok (.iload_n 3, 1) := by decide +kernel
theorem d_Ar_gatherCells_14 : decode b_Ar_gatherCells 14 = .ok (.aload_n 2, 1) := by decide +kernel
theorem d_Ar_gatherCells_15 : decode b_Ar_gatherCells 15 = .ok (.invokevirtual 50, 3) := by decide +kernel
theorem d_Ar_gatherCells_18 : decode b_Ar_gatherCells 18 = .ok (.if_icmp .ge 34, 3) := by decide +kernel
theorem d_Ar_gatherCells_21 : decode b_Ar_gatherCells 21 = .ok (.aload_n 2, 1) := by decide +kernel
theorem d_Ar_gatherCells_22 : decode b_Ar_gatherCells 22 = .ok (.iload_n 3, 1) := by decide +kernel
theorem d_Ar_gatherCells_23 : decode b_Ar_gatherCells 23 = .ok (.invokevirtual 54, 3) := by decide +kernel
theorem d_Ar_gatherCells_26 : decode b_Ar_gatherCells 26 = .ok (.astore 4, 2) := by decide +kernel
theorem d_Ar_gatherCells_28 : decode b_Ar_gatherCells 28 = .ok (.aload 4, 2) := by decide +kernel
theorem d_Ar_gatherCells_30 : decode b_Ar_gatherCells 30 = .ok (.getfield 66, 3) := by decide +kernel
theorem d_Ar_gatherCells_33 : decode b_Ar_gatherCells 33 = .ok (.iconst 1, 1) := by decide +kernel
theorem d_Ar_gatherCells_34 : decode b_Ar_gatherCells 34 = .ok (.if_icmp .ne 12, 3) := by decide +kernel
theorem d_Ar_gatherCells_37 : decode b_Ar_gatherCells 37 = .ok (.aload_n 0, 1) := by decide +kernel
theorem d_Ar_gatherCells_38 : decode b_Ar_gatherCells 38 = .ok (.aload 4, 2) := by decide +kernel
theorem d_Ar_gatherCells_40 : decode b_Ar_gatherCells 40 = .ok (.getfield 79, 3) := by decide +kernel
theorem d_Ar_gatherCells_43 : decode b_Ar_gatherCells 43 = .ok (.invokevirtual 137, 3) := by decide +kernel
theorem d_Ar_gatherCells_46 : decode b_Ar_gatherCells 46 = .ok (.iinc 3 1, 3) := by decide +kernel
theorem d_Ar_gatherCells_49 : decode b_Ar_gatherCells 49 = .ok (.goto (-36), 3) := by decide +kernel
theorem d_Ar_gatherCells_52 : decode b_Ar_gatherCells 52 = .ok (.return_, 1) := by decide +kernel
theorem p_Ar_gatherCells_b46 (d : Nat) (b13 : Option Nat → Option Nat → Int32 → gk_H → Option (Unit × gk_H)) (q13 : ∀ (v0 : Option Nat) (v2 : Option Nat) (v3 : Int32) (h : gk_H), gk_P gw_V (d + 2) y_Ar_gatherCells b_Ar_gatherCells 5 none [] (b13 v0 v2 v3 h) 13 [(0, va_rf v0), (2, va_rf v2), (3, .int v3)] [] h) (v0 : Option Nat) (v2 : Option Nat) (v3 : Int32) (h : gk_H) : gk_P gw_V (d + 2) y_Ar_gatherCells b_Ar_gatherCells 5 none [] (f_Ar_gatherCells_b46 b13 v0 v2 v3 h) 46 [(0, va_rf v0), (2, va_rf v2), (3, .int v3)] [] h := by
  unfold f_Ar_gatherCells_b46
  refine gk_iincN (pc := 46) 2 (1 : Int32) (L' := fun x1 => [(3, .int x1), (0, va_rf v0), (2, va_rf v2)]) d_Ar_gatherCells_46 rfl rfl (Nat.le_of_ble_eq_true rfl) (fun _ => by simp [gk_s1, gk_cat_rf, gk_catI, gk_catJ, gk_catD] <;> decide) fun x1 => ?_
  refine gk_goto (pc := 49) 13 d_Ar_gatherCells_49 rfl ?_
  refine gk_weak [1, 2, 0] (L' := [(0, va_rf v0), (2, va_rf v2), (3, .int x1)]) rfl ?_
  exact q13 v0 v2 x1 h
theorem p_Ar_gatherCells_b13 (d : Nat)  : ∀ (fu : Nat) (v0 : Option Nat) (v2 : Option Nat) (v3 : Int32) (h : gk_H), gk_P gw_V (d + 2) y_Ar_gatherCells b_Ar_gatherCells 5 none [] (f_Ar_gatherCells_b13  fu v0 v2 v3 h) 13 [(0, va_rf v0), (2, va_rf v2), (3, .int v3)] [] h := by
  intro fu
  induction fu with
  | zero => intros; exact gk_none
  | succ fu q13 =>
    intro v0 v2 v3 h
    rw [f_Ar_gatherCells_b13]
    refine gk_iload_n (pc := 13) 2 d_Ar_gatherCells_13 rfl ?_
    refine gk_aload_n (pc := 14) 1 d_Ar_gatherCells_14 rfl ?_
    refine gk_callV (pc := 15) (d := (d + 1)) (w' := gv_I) (as := []) (n := 0) 2 d_Ar_gatherCells_15 rfl rfl rfl rfl (Nat.le_of_ble_eq_true rfl) tw_775 tw_776 tw_777 tw_97 cw_Va_howManyCells hy_Va_howManyCells (Nat.le_of_ble_eq_true rfl) (p_Va_howManyCells (d + 1) v2 h) fun x1 h1 => ?_
    refine gk_icmp_ge (pc := 18) 52 d_Ar_gatherCells_18 rfl (fun _ => ?_) (fun _ => ?_)
    · exact gk_vret (pc := 52) rfl d_Ar_gatherCells_52 rfl
    · refine gk_aload_n (pc := 21) 1 d_Ar_gatherCells_21 rfl ?_
      refine gk_iload_n (pc := 22) 2 d_Ar_gatherCells_22 rfl ?_
      refine gk_callV (pc := 23) (d := (d + 1)) (w' := gv_R) (as := [.int v3]) (n := 1) 2 d_Ar_gatherCells_23 rfl rfl rfl rfl (Nat.le_of_ble_eq_true rfl) tw_779 tw_780 tw_781 tw_97 cw_Va_cellAt hy_Va_cellAt (Nat.le_of_ble_eq_true rfl) (p_Va_cellAt (d + 1) v2 v3 h1) fun x2 h2 => ?_
      refine gk_astore (pc := 26) (L' := [(4, va_rf x2), (0, va_rf v0), (2, va_rf v2), (3, .int v3)]) d_Ar_gatherCells_26 (Nat.le_of_ble_eq_true rfl) rfl ?_
      refine gk_aload (pc := 28) 0 d_Ar_gatherCells_28 rfl ?_
      refine gk_getI (pc := 30) 2 0 d_Ar_gatherCells_30 rfl (Nat.le_of_ble_eq_true rfl) tw_191 fun x3 => ?_
      refine gk_iconst (pc := 33) (1 : Int32) d_Ar_gatherCells_33 rfl ?_
      refine gk_icmp_ne (pc := 34) 46 d_Ar_gatherCells_34 rfl (fun _ => ?_) (fun _ => ?_)
      · refine gk_aload_n (pc := 37) 1 d_Ar_gatherCells_37 rfl ?_
        refine gk_aload (pc := 38) 0 d_Ar_gatherCells_38 rfl ?_
        refine gk_getD (pc := 40) 2 2 d_Ar_gatherCells_40 rfl (Nat.le_of_ble_eq_true rfl) tw_201 fun x4 => ?_
        refine gk_callV (pc := 43) (d := (d + 1)) (w' := gv_V) (as := [.double x4]) (n := 1) 4 d_Ar_gatherCells_43 rfl rfl rfl rfl (Nat.le_of_ble_eq_true rfl) tw_1060 tw_1062 tw_7 tw_96 cw_Ar_addToRow hy_Ar_addToRow (Nat.le_of_ble_eq_true rfl) (p_Ar_addToRow (d + 1) v0 x4 h2) fun _ h3 => ?_
        refine gk_weak [1, 2, 3] (L' := [(0, va_rf v0), (2, va_rf v2), (3, .int v3)]) rfl ?_
        exact p_Ar_gatherCells_b46 d (f_Ar_gatherCells_b13 fu) q13 v0 v2 v3 h3
      · refine gk_weak [1, 2, 3] (L' := [(0, va_rf v0), (2, va_rf v2), (3, .int v3)]) rfl ?_
        exact p_Ar_gatherCells_b46 d (f_Ar_gatherCells_b13 fu) q13 v0 v2 v3 h2
theorem w_Ar_gatherCells (d : Nat) (a0 : Option Nat) (a1 : Int32) (h : gk_H) : gk_P gw_V (d + 2) y_Ar_gatherCells b_Ar_gatherCells 5 none [] (f_Ar_gatherCells a0 a1 h) 0 [(0, va_rf a0), (1, .int a1)] [] h := by
  unfold f_Ar_gatherCells
  refine gk_aload_n (pc := 0) 0 d_Ar_gatherCells_0 rfl ?_
  refine gk_iload_n (pc := 1) 1 d_Ar_gatherCells_1 rfl ?_
  refine gk_callV (pc := 2) (d := (d + 1)) (w' := gv_R) (as := [.int a1]) (n := 1) 4 d_Ar_gatherCells_2 rfl rfl rfl rfl (Nat.le_of_ble_eq_true rfl) tw_1055 tw_1034 tw_1035 tw_96 cw_Ar_raw hy_Ar_raw (Nat.le_of_ble_eq_true rfl) (p_Ar_raw (d + 1) a0 a1 h) fun x1 h1 => ?_
  refine gk_astore_n (pc := 5) (L' := [(2, va_rf x1), (0, va_rf a0), (1, .int a1)]) d_Ar_gatherCells_5 (Nat.le_of_ble_eq_true rfl) rfl ?_
  refine gk_aload_n (pc := 6) 1 d_Ar_gatherCells_6 rfl ?_
  refine gk_iload_n (pc := 7) 2 d_Ar_gatherCells_7 rfl ?_
  refine gk_callV (pc := 8) (d := (d + 1)) (w' := gv_V) (as := [.int a1]) (n := 1) 4 d_Ar_gatherCells_8 rfl rfl rfl rfl (Nat.le_of_ble_eq_true rfl) tw_1056 tw_1057 tw_1058 tw_96 cw_Ar_blameCells hy_Ar_blameCells (Nat.le_of_ble_eq_true rfl) (p_Ar_blameCells d a0 a1 h1) fun _ h2 => ?_
  refine gk_iconst (pc := 11) (0 : Int32) d_Ar_gatherCells_11 rfl ?_
  refine gk_istore_n (pc := 12) (L' := [(3, .int (0 : Int32)), (2, va_rf x1), (0, va_rf a0), (1, .int a1)]) d_Ar_gatherCells_12 (Nat.le_of_ble_eq_true rfl) (by simp [gk_s1, gk_s2, gk_cat_rf, gk_catI, gk_catJ, gk_catD] <;> decide) ?_
  refine gk_weak [2, 1, 0] (L' := [(0, va_rf a0), (2, va_rf x1), (3, .int (0 : Int32))]) rfl ?_
  exact p_Ar_gatherCells_b13 d gk_F a0 x1 (0 : Int32) h2
theorem p_Ar_gatherCells (d : Nat) (a0 : Option Nat) (a1 : Int32) (h : gk_H) : ∀ r h1, f_Ar_gatherCells a0 a1 h = some (r, h1) → gk_M (d + 2) y_Ar_gatherCells b_Ar_gatherCells 5 none [va_rf a0, .int a1] h (.inl (gv_V r)) h1 :=
  fun r h1 e => gk_M_of2 (by decide +kernel) (by simp [lv_args, gk_cat_rf, gk_catI, gk_catJ, gk_catD, gv_V, gv_I, gv_J, gv_D, gv_R]) (by simp [lg_sl, gk_cat_rf, gk_catI, gk_catJ, gk_catD, gv_V, gv_I, gv_J, gv_D, gv_R]) (w_Ar_gatherCells d a0 a1 h r h1 e)
theorem d_Ar_inRow_0 : decode b_Ar_inRow 0 = .ok (.aload_n 0, 1) := by decide +kernel
theorem d_Ar_inRow_1 : decode b_Ar_inRow 1 = .ok (.getfield 60, 3) := by decide +kernel
theorem d_Ar_inRow_4 : decode b_Ar_inRow 4 = .ok (.ireturn, 1) := by decide +kernel
theorem w_Ar_inRow (d : Nat) (a0 : Option Nat) (h : gk_H) : gk_P gw_I d y_Ar_inRow b_Ar_inRow 1 (some .int) [] (f_Ar_inRow a0 h) 0 [(0, va_rf a0)] [] h := by
  unfold f_Ar_inRow
  refine gk_aload_n (pc := 0) 0 d_Ar_inRow_0 rfl ?_
  refine gk_getI (pc := 1) 4 5 d_Ar_inRow_1 rfl (Nat.le_of_ble_eq_true rfl) tw_265 fun x1 => ?_
  exact gk_iret (pc := 4) rfl d_Ar_inRow_4 rfl
theorem p_Ar_inRow (d : Nat) (a0 : Option Nat) (h : gk_H) : ∀ r h1, f_Ar_inRow a0 h = some (r, h1) → gk_M d y_Ar_inRow b_Ar_inRow 1 (some .int) [va_rf a0] h (.inl (gv_I r)) h1 :=
  fun r h1 e => gk_M_of2 (by decide +kernel) (by simp [lv_args, gk_cat_rf, gk_catI, gk_catJ, gk_catD, gv_V, gv_I, gv_J, gv_D, gv_R]) (by simp [lg_sl, gk_cat_rf, gk_catI, gk_catJ, gk_catD, gv_V, gv_I, gv_J, gv_D, gv_R]) (w_Ar_inRow d a0 h r h1 e)
theorem d_Ar_ofRow_0 : decode b_Ar_ofRow 0 = .ok (.iload_n 1, 1) := by decide +kernel
theorem d_Ar_ofRow_1 : decode b_Ar_ofRow 1 = .ok (.ifCond .lt 20, 3) := by decide +kernel
theorem d_Ar_ofRow_4 : decode b_Ar_ofRow 4 = .ok (.iload_n 1, 1) := by decide +kernel
theorem d_Ar_ofRow_5 : decode b_Ar_ofRow 5 = .ok (.aload_n 0, 1) := by decide +kernel
theorem d_Ar_ofRow_6 : decode b_Ar_ofRow 6 = .ok (.getfield 60, 3) := by decide +kernel
theorem d_Ar_ofRow_9 : decode b_Ar_ofRow 9 = .ok (.if_icmp .ge 12, 3) := by decide +kernel
theorem d_Ar_ofRow_12 : decode b_Ar_ofRow 12 = .ok (.aload_n 0, 1) := by decide +kernel
theorem d_Ar_ofRow_13 : decode b_Ar_ofRow 13 = .ok (.getfield 20, 3) := by decide +kernel
theorem d_Ar_ofRow_16 : decode b_Ar_ofRow 16 = .ok (.iload_n 1, 1) := by decide +kernel
theorem d_Ar_ofRow_17 : decode b_Ar_ofRow 17 = .ok (.daload, 1) := by decide +kernel
theorem d_Ar_ofRow_18 : decode b_Ar_ofRow 18 = .ok (.goto 4, 3) := by decide +kernel
theorem d_Ar_ofRow_21 : decode b_Ar_ofRow 21 = .ok (.dconst 0, 1) := by decide +kernel
theorem d_Ar_ofRow_22 : decode b_Ar_ofRow 22 = .ok (.dreturn, 1) := by decide +kernel
theorem p_Ar_ofRow_b22 (d : Nat)  (s0 : UInt64) (h : gk_H) : gk_P gw_D d y_Ar_ofRow b_Ar_ofRow 2 (some .double) [] (f_Ar_ofRow_b22  s0 h) 22 [] [.double s0] h := by
  unfold f_Ar_ofRow_b22
  exact gk_dret (pc := 22) rfl d_Ar_ofRow_22 rfl
theorem p_Ar_ofRow_b21 (d : Nat)   (h : gk_H) : gk_P gw_D d y_Ar_ofRow b_Ar_ofRow 2 (some .double) [] (f_Ar_ofRow_b21   h) 21 [] [] h := by
  unfold f_Ar_ofRow_b21
  refine gk_dconst0 (pc := 21) d_Ar_ofRow_21 ?_
  exact p_Ar_ofRow_b22 d (0x0000000000000000) h
theorem w_Ar_ofRow (d : Nat) (a0 : Option Nat) (a1 : Int32) (h : gk_H) : gk_P gw_D d y_Ar_ofRow b_Ar_ofRow 2 (some .double) [] (f_Ar_ofRow a0 a1 h) 0 [(0, va_rf a0), (1, .int a1)] [] h := by
  unfold f_Ar_ofRow
  refine gk_iload_n (pc := 0) 1 d_Ar_ofRow_0 rfl ?_
  refine gk_if_lt (pc := 1) 21 d_Ar_ofRow_1 rfl (fun _ => ?_) (fun _ => ?_)
  · refine gk_weak [] (L' := []) rfl ?_
    exact p_Ar_ofRow_b21 d h
  · refine gk_iload_n (pc := 4) 1 d_Ar_ofRow_4 rfl ?_
    refine gk_aload_n (pc := 5) 0 d_Ar_ofRow_5 rfl ?_
    refine gk_getI (pc := 6) 4 5 d_Ar_ofRow_6 rfl (Nat.le_of_ble_eq_true rfl) tw_265 fun x1 => ?_
    refine gk_icmp_ge (pc := 9) 21 d_Ar_ofRow_9 rfl (fun _ => ?_) (fun _ => ?_)
    · refine gk_weak [] (L' := []) rfl ?_
      exact p_Ar_ofRow_b21 d h
    · refine gk_aload_n (pc := 12) 0 d_Ar_ofRow_12 rfl ?_
      refine gk_getR (pc := 13) 4 4 d_Ar_ofRow_13 rfl (Nat.le_of_ble_eq_true rfl) tw_264 fun x2 => ?_
      refine gk_iload_n (pc := 16) 1 d_Ar_ofRow_16 rfl ?_
      refine gk_dald (pc := 17) d_Ar_ofRow_17 fun x3 => ?_
      refine gk_goto (pc := 18) 22 d_Ar_ofRow_18 rfl ?_
      refine gk_weak [] (L' := []) rfl ?_
      exact p_Ar_ofRow_b22 d x3 h
theorem p_Ar_ofRow (d : Nat) (a0 : Option Nat) (a1 : Int32) (h : gk_H) : ∀ r h1, f_Ar_ofRow a0 a1 h = some (r, h1) → gk_M d y_Ar_ofRow b_Ar_ofRow 2 (some .double) [va_rf a0, .int a1] h (.inl (gv_D r)) h1 :=
  fun r h1 e => gk_M_of2 (by decide +kernel) (by simp [lv_args, gk_cat_rf, gk_catI, gk_catJ, gk_catD, gv_V, gv_I, gv_J, gv_D, gv_R]) (by simp [lg_sl, gk_cat_rf, gk_catI, gk_catJ, gk_catD, gv_V, gv_I, gv_J, gv_D, gv_R]) (w_Ar_ofRow d a0 a1 h r h1 e)
theorem d_Su_rank_0 : decode b_Su_rank 0 = .ok (.aload_n 0, 1) := by decide +kernel
theorem d_Su_rank_1 : decode b_Su_rank 1 = .ok (.iconst 0, 1) := by decide +kernel
theorem d_Su_rank_2 : decode b_Su_rank 2 = .ok (.invokevirtual 133, 3) := by decide +kernel
theorem d_Su_rank_5 : decode b_Su_rank 5 = .ok (.dstore_n 1, 1) := by decide +kernel
theorem d_Su_rank_6 : decode b_Su_rank 6 = .ok (.aload_n 0, 1) := by decide +kernel
theorem d_Su_rank_7 : decode b_Su_rank 7 = .ok (.iconst 1, 1) := by decide +kernel
theorem d_Su_rank_8 : decode b_Su_rank 8 = .ok (.invokevirtual 125, 3) := by decide +kernel
theorem d_Su_rank_11 : decode b_Su_rank 11 = .ok (.iconst 0, 1) := by decide +kernel
theorem d_Su_rank_12 : decode b_Su_rank 12 = .ok (.istore_n 3, 1) := by decide +kernel
theorem d_Su_rank_13 : decode b_Su_rank 13 = .ok (.iconst 0, 1) := by decide +kernel
theorem d_Su_rank_14 : decode b_Su_rank 14 = .ok (.istore 4, 2) := by decide +kernel
theorem d_Su_rank_16 : decode b_Su_rank 16 = .ok (.iconst 0, 1) := by decide +kernel
theorem d_Su_rank_17 : decode b_Su_rank 17 = .ok (.istore 5, 2) := by decide +kernel
theorem d_Su_rank_19 : decode b_Su_rank 19 = .ok (.iload 5, 2) := by decide +kernel
theorem d_Su_rank_21 : decode b_Su_rank 21 = .ok (.aload_n 0, 1) := by decide +kernel
theorem d_Su_rank_22 : decode b_Su_rank 22 = .ok (.invokevirtual 61, 3) := by decide +kernel
theorem d_Su_rank_25 : decode b_Su_rank 25 = .ok (.if_icmp .ge 51, 3) := by decide +kernel
theorem d_Su_rank_28 : decode b_Su_rank 28 = .ok (.iload_n 3, 1) := by decide +kernel
theorem d_Su_rank_29 : decode b_Su_rank 29 = .ok (.aload_n 0, 1) := by decide +kernel
theorem d_Su_rank_30 : decode b_Su_rank 30 = .ok (.iload 5, 2) := by decide +kernel
theorem d_Su_rank_32 : decode b_Su_rank 32 = .ok (.invokevirtual 77, 3) := by decide +kernel
theorem d_Su_rank_35 : decode b_Su_rank 35 = .ok (.dload_n 1, 1) := by decide +kernel
theorem d_Su_rank_36 : decode b_Su_rank 36 = .ok (.dcmp .l, 1) := by decide +kernel
theorem d_Su_rank_37 : decode b_Su_rank 37 = .ok (.ifCond .le 7, 3) := by decide +kernel
theorem d_Su_rank_40 : decode b_Su_rank 40 = .ok (.iconst 1, 1) := by decide +kernel
theorem d_Su_rank_41 : decode b_Su_rank 41 = .ok (.goto 4, 3) := by decide +kernel
theorem d_Su_rank_44 : decode b_Su_rank 44 = .ok (.iconst 0, 1) := by decide +kernel
theorem d_Su_rank_45 : decode b_Su_rank 45 = .ok (.iadd, 1) := by decide +kernel
theorem d_Su_rank_46 : decode b_Su_rank 46 = .ok (.istore_n 3, 1) := by decide +kernel
theorem d_Su_rank_47 : decode b_Su_rank 47 = .ok (.iload 4, 2) := by decide +kernel
theorem d_Su_rank_49 : decode b_Su_rank 49 = .ok (.ifCond .ne 14, 3) := by decide +kernel
theorem d_Su_rank_52 : decode b_Su_rank 52 = .ok (.aload_n 0, 1) := by decide +kernel
theorem d_Su_rank_53 : decode b_Su_rank 53 = .ok (.iload 5, 2) := by decide +kernel
theorem d_Su_rank_55 : decode b_Su_rank 55 = .ok (.invokevirtual 77, 3) := by decide +kernel
theorem d_Su_rank_58 : decode b_Su_rank 58 = .ok (.dload_n 1, 1) := by decide +kernel
theorem d_Su_rank_59 : decode b_Su_rank 59 = .ok (.dcmp .l, 1) := by decide +kernel
theorem d_Su_rank_60 : decode b_Su_rank 60 = .ok (.ifCond .ne 7, 3) := by decide +kernel
theorem d_Su_rank_63 : decode b_Su_rank 63 = .ok (.iconst 1, 1) := by decide +kernel
theorem d_Su_rank_64 : decode b_Su_rank 64 = .ok (.goto 4, 3) := by decide +kernel
theorem d_Su_rank_67 : decode b_Su_rank 67 = .ok (.iconst 0, 1) := by decide +kernel
theorem d_Su_rank_68 : decode b_Su_rank 68 = .ok (.istore 4, 2) := by decide +kernel
theorem d_Su_rank_70 : decode b_Su_rank 70 = .ok (.iinc 5 1, 3) := by decide +kernel
theorem d_Su_rank_73 : decode b_Su_rank 73 = .ok (.goto (-54), 3) := by decide +kernel
theorem d_Su_rank_76 : decode b_Su_rank 76 = .ok (.iload 4, 2) := by decide +kernel
theorem d_Su_rank_78 : decode b_Su_rank 78 = .ok (.ifCond .eq 13, 3) := by decide +kernel
theorem d_Su_rank_81 : decode b_Su_rank 81 = .ok (.iconst 1, 1) := by decide +kernel
theorem d_Su_rank_82 : decode b_Su_rank 82 = .ok (.iload_n 3, 1) := by decide +kernel
theorem d_Su_rank_83 : decode b_Su_rank 83 = .ok (.iadd, 1) := by decide +kernel
theorem d_Su_rank_84 : decode b_Su_rank 84 = .ok (.i2d, 1) := by decide +kernel
theorem d_Su_rank_85 : decode b_Su_rank 85 = .ok (.invokestatic 38, 3) := by decide +kernel
theorem d_Su_rank_88 : decode b_Su_rank 88 = .ok (.goto 8, 3) := by decide +kernel
theorem d_Su_rank_91 : decode b_Su_rank 91 = .ok (.bipush 7, 2) := by decide +kernel
theorem d_Su_rank_93 : decode b_Su_rank 93 = .ok (.invokestatic 69, 3) := by decide +kernel
theorem d_Su_rank_96 : decode b_Su_rank 96 = .ok (.areturn, 1) := by decide +kernel
theorem p_Su_rank_b96 (d : Nat)  (s0 : Option Nat) (h : gk_H) : gk_P gw_R (d + 7) y_Su_rank b_Su_rank 6 (some (.object "ValueAlgebra$Value")) [] (f_Su_rank_b96  s0 h) 96 [] [va_rf s0] h := by
  unfold f_Su_rank_b96
  exact gk_aret (pc := 96) rfl d_Su_rank_96 rfl (Or.inl ⟨_, rfl⟩)
theorem p_Su_rank_b68 (d : Nat) (b19 : Option Nat → UInt64 → Int32 → Int32 → Int32 → gk_H → Option ((Option Nat) × gk_H)) (q19 : ∀ (v0 : Option Nat) (v1 : UInt64) (v3 : Int32) (v4 : Int32) (v5 : Int32) (h : gk_H), gk_P gw_R (d + 7) y_Su_rank b_Su_rank 6 (some (.object "ValueAlgebra$Value")) [] (b19 v0 v1 v3 v4 v5 h) 19 [(0, va_rf v0), (1, .double v1), (3, .int v3), (4, .int v4), (5, .int v5)] [] h) (v0 : Option Nat) (v1 : UInt64) (v3 : Int32) (v5 : Int32) (s0 : Int32) (h : gk_H) : gk_P gw_R (d + 7) y_Su_rank b_Su_rank 6 (some (.object "ValueAlgebra$Value")) [] (f_Su_rank_b68 b19 v0 v1 v3 v5 s0 h) 68 [(0, va_rf v0), (1, .double v1), (3, .int v3), (5, .int v5)] [.int s0] h := by
  unfold f_Su_rank_b68
  refine gk_istore (pc := 68) (L' := [(4, .int s0), (0, va_rf v0), (1, .double v1), (3, .int v3), (5, .int v5)]) d_Su_rank_68 (Nat.le_of_ble_eq_true rfl) rfl ?_
  refine gk_iincN (pc := 70) 4 (1 : Int32) (L' := fun x1 => [(5, .int x1), (4, .int s0), (0, va_rf v0), (1, .double v1), (3, .int v3)]) d_Su_rank_70 rfl rfl (Nat.le_of_ble_eq_true rfl) (fun _ => rfl) fun x1 => ?_
  refine gk_goto (pc := 73) 19 d_Su_rank_73 rfl ?_
  refine gk_weak [2, 3, 4, 1, 0] (L' := [(0, va_rf v0), (1, .double v1), (3, .int v3), (4, .int s0), (5, .int x1)]) rfl ?_
  exact q19 v0 v1 v3 s0 x1 h
theorem p_Su_rank_b63 (d : Nat) (b19 : Option Nat → UInt64 → Int32 → Int32 → Int32 → gk_H → Option ((Option Nat) × gk_H)) (q19 : ∀ (v0 : Option Nat) (v1 : UInt64) (v3 : Int32) (v4 : Int32) (v5 : Int32) (h : gk_H), gk_P gw_R (d + 7) y_Su_rank b_Su_rank 6 (some (.object "ValueAlgebra$Value")) [] (b19 v0 v1 v3 v4 v5 h) 19 [(0, va_rf v0), (1, .double v1), (3, .int v3), (4, .int v4), (5, .int v5)] [] h) (v0 : Option Nat) (v1 : UInt64) (v3 : Int32) (v5 : Int32) (h : gk_H) : gk_P gw_R (d + 7) y_Su_rank b_Su_rank 6 (some (.object "ValueAlgebra$Value")) [] (f_Su_rank_b63 b19 v0 v1 v3 v5 h) 63 [(0, va_rf v0), (1, .double v1), (3, .int v3), (5, .int v5)] [] h := by
  unfold f_Su_rank_b63
  refine gk_iconst (pc := 63) (1 : Int32) d_Su_rank_63 rfl ?_
  refine gk_goto (pc := 64) 68 d_Su_rank_64 rfl ?_
  exact p_Su_rank_b68 d b19 q19 v0 v1 v3 v5 (1 : Int32) h
theorem p_Su_rank_b45 (d : Nat) (b19 : Option Nat → UInt64 → Int32 → Int32 → Int32 → gk_H → Option ((Option Nat) × gk_H)) (q19 : ∀ (v0 : Option Nat) (v1 : UInt64) (v3 : Int32) (v4 : Int32) (v5 : Int32) (h : gk_H), gk_P gw_R (d + 7) y_Su_rank b_Su_rank 6 (some (.object "ValueAlgebra$Value")) [] (b19 v0 v1 v3 v4 v5 h) 19 [(0, va_rf v0), (1, .double v1), (3, .int v3), (4, .int v4), (5, .int v5)] [] h) (v0 : Option Nat) (v1 : UInt64) (v4 : Int32) (v5 : Int32) (s0 : Int32) (s1 : Int32) (h : gk_H) : gk_P gw_R (d + 7) y_Su_rank b_Su_rank 6 (some (.object "ValueAlgebra$Value")) [] (f_Su_rank_b45 b19 v0 v1 v4 v5 s0 s1 h) 45 [(0, va_rf v0), (1, .double v1), (4, .int v4), (5, .int v5)] [.int s1, .int s0] h := by
  unfold f_Su_rank_b45
  refine gk_iadd (pc := 45) d_Su_rank_45 ?_
  refine gk_topI (pc := 46) fun x1 => ?_
  refine gk_istore_n (pc := 46) (L' := [(3, .int x1), (0, va_rf v0), (1, .double v1), (4, .int v4), (5, .int v5)]) d_Su_rank_46 (Nat.le_of_ble_eq_true rfl) rfl ?_
  refine gk_iload (pc := 47) 3 d_Su_rank_47 rfl ?_
  refine gk_if_ne (pc := 49) 63 d_Su_rank_49 rfl (fun _ => ?_) (fun _ => ?_)
  · refine gk_aload_n (pc := 52) 1 d_Su_rank_52 rfl ?_
    refine gk_iload (pc := 53) 4 d_Su_rank_53 rfl ?_
    refine gk_callV (pc := 55) (d := (d + 6)) (w' := gv_D) (as := [.int v5]) (n := 1) 4 d_Su_rank_55 rfl rfl rfl rfl (Nat.le_of_ble_eq_true rfl) tw_1079 tw_1080 tw_1081 tw_96 cw_Ar_ofRow hy_Ar_ofRow (Nat.le_of_ble_eq_true rfl) (p_Ar_ofRow (d + 6) v0 v5 h) fun x2 h1 => ?_
    refine gk_dload_n (pc := 58) 2 d_Su_rank_58 rfl ?_
    refine gk_dcmp (pc := 59) d_Su_rank_59 ?_
    refine gk_if_ne (pc := 60) 67 d_Su_rank_60 rfl (fun _ => ?_) (fun _ => ?_)
    · refine gk_weak [1, 2, 0, 4] (L' := [(0, va_rf v0), (1, .double v1), (3, .int x1), (5, .int v5)]) rfl ?_
      exact p_Su_rank_b63 d b19 q19 v0 v1 x1 v5 h1
    · refine gk_iconst (pc := 67) (0 : Int32) d_Su_rank_67 rfl ?_
      refine gk_weak [1, 2, 0, 4] (L' := [(0, va_rf v0), (1, .double v1), (3, .int x1), (5, .int v5)]) rfl ?_
      exact p_Su_rank_b68 d b19 q19 v0 v1 x1 v5 (0 : Int32) h1
  · refine gk_weak [1, 2, 0, 4] (L' := [(0, va_rf v0), (1, .double v1), (3, .int x1), (5, .int v5)]) rfl ?_
    exact p_Su_rank_b63 d b19 q19 v0 v1 x1 v5 h
theorem p_Su_rank_b19 (d : Nat)  : ∀ (fu : Nat) (v0 : Option Nat) (v1 : UInt64) (v3 : Int32) (v4 : Int32) (v5 : Int32) (h : gk_H), gk_P gw_R (d + 7) y_Su_rank b_Su_rank 6 (some (.object "ValueAlgebra$Value")) [] (f_Su_rank_b19  fu v0 v1 v3 v4 v5 h) 19 [(0, va_rf v0), (1, .double v1), (3, .int v3), (4, .int v4), (5, .int v5)] [] h := by
  intro fu
  induction fu with
  | zero => intros; exact gk_none
  | succ fu q19 =>
    intro v0 v1 v3 v4 v5 h
    rw [f_Su_rank_b19]
    refine gk_iload (pc := 19) 4 d_Su_rank_19 rfl ?_
    refine gk_aload_n (pc := 21) 0 d_Su_rank_21 rfl ?_
    refine gk_callV (pc := 22) (d := (d + 6)) (w' := gv_I) (as := []) (n := 0) 4 d_Su_rank_22 rfl rfl rfl rfl (Nat.le_of_ble_eq_true rfl) tw_1070 tw_1071 tw_1072 tw_96 cw_Ar_inRow hy_Ar_inRow (Nat.le_of_ble_eq_true rfl) (p_Ar_inRow (d + 6) v0 h) fun x1 h1 => ?_
    refine gk_icmp_ge (pc := 25) 76 d_Su_rank_25 rfl (fun _ => ?_) (fun _ => ?_)
    · refine gk_iload (pc := 76) 3 d_Su_rank_76 rfl ?_
      refine gk_if_eq (pc := 78) 91 d_Su_rank_78 rfl (fun _ => ?_) (fun _ => ?_)
      · refine gk_bipush (pc := 91) (7 : Int32) d_Su_rank_91 rfl ?_
        refine gk_callS (pc := 93) (d := (d + 6)) (w' := gv_R) (as := [.int (7 : Int32)]) (n := 1) d_Su_rank_93 rfl rfl (Nat.le_of_ble_eq_true rfl) tw_1074 tw_236 tw_97 cw_Va_ofError hy_Va_ofError (Nat.le_of_ble_eq_true rfl) (p_Va_ofError (d + 4) (7 : Int32) h1) fun x2 h2 => ?_
        refine gk_weak [] (L' := []) rfl ?_
        exact p_Su_rank_b96 d x2 h2
      · refine gk_iconst (pc := 81) (1 : Int32) d_Su_rank_81 rfl ?_
        refine gk_iload_n (pc := 82) 2 d_Su_rank_82 rfl ?_
        refine gk_iadd (pc := 83) d_Su_rank_83 ?_
        refine gk_i2d (pc := 84) d_Su_rank_84 ?_
        refine gk_callS (pc := 85) (d := (d + 6)) (w' := gv_R) (as := [.double (FP.i2d ((1 : Int32) + v3))]) (n := 1) d_Su_rank_85 rfl rfl (Nat.le_of_ble_eq_true rfl) tw_1047 tw_317 tw_97 cw_Va_ofNumber hy_Va_ofNumber (Nat.le_of_ble_eq_true rfl) (p_Va_ofNumber (d + 4) (FP.i2d ((1 : Int32) + v3)) h1) fun x3 h3 => ?_
        refine gk_goto (pc := 88) 96 d_Su_rank_88 rfl ?_
        refine gk_weak [] (L' := []) rfl ?_
        exact p_Su_rank_b96 d x3 h3
    · refine gk_iload_n (pc := 28) 2 d_Su_rank_28 rfl ?_
      refine gk_aload_n (pc := 29) 0 d_Su_rank_29 rfl ?_
      refine gk_iload (pc := 30) 4 d_Su_rank_30 rfl ?_
      refine gk_callV (pc := 32) (d := (d + 6)) (w' := gv_D) (as := [.int v5]) (n := 1) 4 d_Su_rank_32 rfl rfl rfl rfl (Nat.le_of_ble_eq_true rfl) tw_1079 tw_1080 tw_1081 tw_96 cw_Ar_ofRow hy_Ar_ofRow (Nat.le_of_ble_eq_true rfl) (p_Ar_ofRow (d + 6) v0 v5 h1) fun x4 h4 => ?_
      refine gk_dload_n (pc := 35) 1 d_Su_rank_35 rfl ?_
      refine gk_dcmp (pc := 36) d_Su_rank_36 ?_
      refine gk_if_le (pc := 37) 44 d_Su_rank_37 rfl (fun _ => ?_) (fun _ => ?_)
      · refine gk_iconst (pc := 44) (0 : Int32) d_Su_rank_44 rfl ?_
        refine gk_weak [0, 1, 3, 4] (L' := [(0, va_rf v0), (1, .double v1), (4, .int v4), (5, .int v5)]) rfl ?_
        exact p_Su_rank_b45 d (f_Su_rank_b19 fu) q19 v0 v1 v4 v5 v3 (0 : Int32) h4
      · refine gk_iconst (pc := 40) (1 : Int32) d_Su_rank_40 rfl ?_
        refine gk_goto (pc := 41) 45 d_Su_rank_41 rfl ?_
        refine gk_weak [0, 1, 3, 4] (L' := [(0, va_rf v0), (1, .double v1), (4, .int v4), (5, .int v5)]) rfl ?_
        exact p_Su_rank_b45 d (f_Su_rank_b19 fu) q19 v0 v1 v4 v5 v3 (1 : Int32) h4
theorem w_Su_rank (d : Nat) (a0 : Option Nat) (h : gk_H) : gk_P gw_R (d + 7) y_Su_rank b_Su_rank 6 (some (.object "ValueAlgebra$Value")) [] (f_Su_rank a0 h) 0 [(0, va_rf a0)] [] h := by
  unfold f_Su_rank
  refine gk_aload_n (pc := 0) 0 d_Su_rank_0 rfl ?_
  refine gk_iconst (pc := 1) (0 : Int32) d_Su_rank_1 rfl ?_
  refine gk_callV (pc := 2) (d := (d + 6)) (w' := gv_D) (as := [.int (0 : Int32)]) (n := 1) 4 d_Su_rank_2 rfl rfl rfl rfl (Nat.le_of_ble_eq_true rfl) tw_1086 tw_788 tw_789 tw_96 cw_Ar_amount hy_Ar_amount (Nat.le_of_ble_eq_true rfl) (p_Ar_amount d a0 (0 : Int32) h) fun x1 h1 => ?_
  refine gk_dstore_n (pc := 5) (L' := [(1, .double x1), (0, va_rf a0)]) d_Su_rank_5 (Nat.le_of_ble_eq_true rfl) (by simp [gk_s1, gk_s2, gk_cat_rf, gk_catI, gk_catJ, gk_catD] <;> decide) ?_
  refine gk_aload_n (pc := 6) 1 d_Su_rank_6 rfl ?_
  refine gk_iconst (pc := 7) (1 : Int32) d_Su_rank_7 rfl ?_
  refine gk_callV (pc := 8) (d := (d + 6)) (w' := gv_V) (as := [.int (1 : Int32)]) (n := 1) 4 d_Su_rank_8 rfl rfl rfl rfl (Nat.le_of_ble_eq_true rfl) tw_1051 tw_1052 tw_1053 tw_96 cw_Ar_gatherCells hy_Ar_gatherCells (Nat.le_of_ble_eq_true rfl) (p_Ar_gatherCells (d + 4) a0 (1 : Int32) h1) fun _ h2 => ?_
  refine gk_iconst (pc := 11) (0 : Int32) d_Su_rank_11 rfl ?_
  refine gk_istore_n (pc := 12) (L' := [(3, .int (0 : Int32)), (1, .double x1), (0, va_rf a0)]) d_Su_rank_12 (Nat.le_of_ble_eq_true rfl) rfl ?_
  refine gk_iconst (pc := 13) (0 : Int32) d_Su_rank_13 rfl ?_
  refine gk_istore (pc := 14) (L' := [(4, .int (0 : Int32)), (3, .int (0 : Int32)), (1, .double x1), (0, va_rf a0)]) d_Su_rank_14 (Nat.le_of_ble_eq_true rfl) rfl ?_
  refine gk_iconst (pc := 16) (0 : Int32) d_Su_rank_16 rfl ?_
  refine gk_istore (pc := 17) (L' := [(5, .int (0 : Int32)), (4, .int (0 : Int32)), (3, .int (0 : Int32)), (1, .double x1), (0, va_rf a0)]) d_Su_rank_17 (Nat.le_of_ble_eq_true rfl) rfl ?_
  refine gk_weak [4, 3, 2, 1, 0] (L' := [(0, va_rf a0), (1, .double x1), (3, .int (0 : Int32)), (4, .int (0 : Int32)), (5, .int (0 : Int32))]) rfl ?_
  exact p_Su_rank_b19 d gk_F a0 x1 (0 : Int32) (0 : Int32) (0 : Int32) h2
theorem p_Su_rank (d : Nat) (a0 : Option Nat) (h : gk_H) : ∀ r h1, f_Su_rank a0 h = some (r, h1) → gk_M (d + 7) y_Su_rank b_Su_rank 6 (some (.object "ValueAlgebra$Value")) [va_rf a0] h (.inl (gv_R r)) h1 :=
  fun r h1 e => gk_M_of2 (by decide +kernel) (by simp [lv_args, gk_cat_rf, gk_catI, gk_catJ, gk_catD, gv_V, gv_I, gv_J, gv_D, gv_R]) (by simp [lg_sl, gk_cat_rf, gk_catI, gk_catJ, gk_catD, gv_V, gv_I, gv_J, gv_D, gv_R]) (w_Su_rank d a0 h r h1 e)
theorem d_Ar_whole_0 : decode b_Ar_whole 0 = .ok (.aload_n 0, 1) := by decide +kernel
theorem d_Ar_whole_1 : decode b_Ar_whole 1 = .ok (.iload_n 1, 1) := by decide +kernel
theorem d_Ar_whole_2 : decode b_Ar_whole 2 = .ok (.invokevirtual 97, 3) := by decide +kernel
theorem d_Ar_whole_5 : decode b_Ar_whole 5 = .ok (.dstore_n 2, 1) := by decide +kernel
theorem d_Ar_whole_6 : decode b_Ar_whole 6 = .ok (.dload_n 2, 1) := by decide +kernel
theorem d_Ar_whole_7 : decode b_Ar_whole 7 = .ok (.invokestatic 100, 3) := by decide +kernel
theorem d_Ar_whole_10 : decode b_Ar_whole 10 = .ok (.ifCond .ne 11, 3) := by decide +kernel
theorem d_Ar_whole_13 : decode b_Ar_whole 13 = .ok (.aload_n 0, 1) := by decide +kernel
theorem d_Ar_whole_14 : decode b_Ar_whole 14 = .ok (.bipush 6, 2) := by decide +kernel
theorem d_Ar_whole_16 : decode b_Ar_whole 16 = .ok (.invokevirtual 72, 3) := by decide +kernel
theorem d_Ar_whole_19 : decode b_Ar_whole 19 = .ok (.lconst 0, 1) := by decide +kernel
theorem d_Ar_whole_20 : decode b_Ar_whole 20 = .ok (.lreturn, 1) := by decide +kernel
theorem d_Ar_whole_21 : decode b_Ar_whole 21 = .ok (.dload_n 2, 1) := by decide +kernel
theorem d_Ar_whole_22 : decode b_Ar_whole 22 = .ok (.d2l, 1) := by decide +kernel
theorem d_Ar_whole_23 : decode b_Ar_whole 23 = .ok (.lreturn, 1) := by decide +kernel
theorem w_Ar_whole (d : Nat) (a0 : Option Nat) (a1 : Int32) (h : gk_H) : gk_P gw_J (d + 7) y_Ar_whole b_Ar_whole 4 (some .long) [] (f_Ar_whole a0 a1 h) 0 [(0, va_rf a0), (1, .int a1)] [] h := by
  unfold f_Ar_whole
  refine gk_aload_n (pc := 0) 0 d_Ar_whole_0 rfl ?_
  refine gk_iload_n (pc := 1) 1 d_Ar_whole_1 rfl ?_
  refine gk_callV (pc := 2) (d := (d + 6)) (w' := gv_D) (as := [.int a1]) (n := 1) 4 d_Ar_whole_2 rfl rfl rfl rfl (Nat.le_of_ble_eq_true rfl) tw_1068 tw_788 tw_789 tw_96 cw_Ar_amount hy_Ar_amount (Nat.le_of_ble_eq_true rfl) (p_Ar_amount d a0 a1 h) fun x1 h1 => ?_
  refine gk_dstore_n (pc := 5) (L' := [(2, .double x1), (0, va_rf a0), (1, .int a1)]) d_Ar_whole_5 (Nat.le_of_ble_eq_true rfl) rfl ?_
  refine gk_dload_n (pc := 6) 0 d_Ar_whole_6 rfl ?_
  refine gk_callS (pc := 7) (d := (d + 6)) (w' := gv_I) (as := [.double x1]) (n := 1) d_Ar_whole_7 rfl rfl (Nat.le_of_ble_eq_true rfl) tw_1069 tw_906 tw_117 cw_Am_isWithinWhole hy_Am_isWithinWhole (Nat.le_of_ble_eq_true rfl) (p_Am_isWithinWhole (d + 6) x1 h1) fun x2 h2 => ?_
  refine gk_if_ne (pc := 10) 21 d_Ar_whole_10 rfl (fun _ => ?_) (fun _ => ?_)
  · refine gk_aload_n (pc := 13) 1 d_Ar_whole_13 rfl ?_
    refine gk_bipush (pc := 14) (6 : Int32) d_Ar_whole_14 rfl ?_
    refine gk_callV (pc := 16) (d := (d + 6)) (w' := gv_V) (as := [.int (6 : Int32)]) (n := 1) 4 d_Ar_whole_16 rfl rfl rfl rfl (Nat.le_of_ble_eq_true rfl) tw_799 tw_800 tw_801 tw_96 cw_Ar_blame hy_Ar_blame (Nat.le_of_ble_eq_true rfl) (p_Ar_blame (d + 6) a0 (6 : Int32) h2) fun _ h3 => ?_
    refine gk_lconst (pc := 19) (0 : Int64) d_Ar_whole_19 rfl ?_
    exact gk_lret (pc := 20) rfl d_Ar_whole_20 rfl
  · refine gk_dload_n (pc := 21) 0 d_Ar_whole_21 rfl ?_
    refine gk_d2l (pc := 22) d_Ar_whole_22 ?_
    exact gk_lret (pc := 23) rfl d_Ar_whole_23 rfl
theorem p_Ar_whole (d : Nat) (a0 : Option Nat) (a1 : Int32) (h : gk_H) : ∀ r h1, f_Ar_whole a0 a1 h = some (r, h1) → gk_M (d + 7) y_Ar_whole b_Ar_whole 4 (some .long) [va_rf a0, .int a1] h (.inl (gv_J r)) h1 :=
  fun r h1 e => gk_M_of2 (by decide +kernel) (by simp [lv_args, gk_cat_rf, gk_catI, gk_catJ, gk_catD, gv_V, gv_I, gv_J, gv_D, gv_R]) (by simp [lg_sl, gk_cat_rf, gk_catI, gk_catJ, gk_catD, gv_V, gv_I, gv_J, gv_D, gv_R]) (w_Ar_whole d a0 a1 h r h1 e)
theorem d_Ar_sortRow_0 : decode b_Ar_sortRow 0 = .ok (.iconst 1, 1) := by decide +kernel
theorem d_Ar_sortRow_1 : decode b_Ar_sortRow 1 = .ok (.istore_n 1, 1) := by decide +kernel
theorem d_Ar_sortRow_2 : decode b_Ar_sortRow 2 = .ok (.iload_n 1, 1) := by decide +kernel
theorem d_Ar_sortRow_3 : decode b_Ar_sortRow 3 = .ok (.aload_n 0, 1) := by decide +kernel
theorem d_Ar_sortRow_4 : decode b_Ar_sortRow 4 = .ok (.getfield 60, 3) := by decide +kernel
theorem d_Ar_sortRow_7 : decode b_Ar_sortRow 7 = .ok (.if_icmp .ge 68, 3) := by decide +kernel
theorem d_Ar_sortRow_10 : decode b_Ar_sortRow 10 = .ok (.aload_n 0, 1) := by decide +kernel
theorem d_Ar_sortRow_11 : decode b_Ar_sortRow 11 = .ok (.getfield 20, 3) := by decide +kernel
theorem d_Ar_sortRow_14 : decode b_Ar_sortRow 14 = .ok (.iload_n 1, 1) := by decide +kernel
theorem d_Ar_sortRow_15 : decode b_Ar_sortRow 15 = .ok (.daload, 1) := by decide +kernel
theorem d_Ar_sortRow_16 : decode b_Ar_sortRow 16 = .ok (.dstore_n 2, 1) := by decide +kernel
theorem d_Ar_sortRow_17 : decode b_Ar_sortRow 17 = .ok (.iload_n 1, 1) := by decide +kernel
theorem d_Ar_sortRow_18 : decode b_Ar_sortRow 18 = .ok (.istore 4, 2) := by decide +kernel
theorem d_Ar_sortRow_20 : decode b_Ar_sortRow 20 = .ok (.iload 4, 2) := by decide +kernel
theorem d_Ar_sortRow_22 : decode b_Ar_sortRow 22 = .ok (.ifCond .le 39, 3) := by decide +kernel
theorem d_Ar_sortRow_25 : decode b_Ar_sortRow 25 = .ok (.aload_n 0, 1) := by decide +kernel
theorem d_Ar_sortRow_26 : decode b_Ar_sortRow 26 = .ok (.getfield 20, 3) := by decide +kernel
theorem d_Ar_sortRow_29 : decode b_Ar_sortRow 29 = .ok (.iload 4, 2) := by decide +kernel
theorem d_Ar_sortRow_31 : decode b_Ar_sortRow 31 = .ok (.iconst 1, 1) := by decide +kernel
theorem d_Ar_sortRow_32 : decode b_Ar_sortRow 32 = .ok (.isub, 1) := by decide +kernel
theorem d_Ar_sortRow_33 : decode b_Ar_sortRow 33 = .ok (.daload, 1) := by decide +kernel
theorem d_Ar_sortRow_34 : decode b_Ar_sortRow 34 = .ok (.dload_n 2, 1) := by decide +kernel
theorem d_Ar_sortRow_35 : decode b_Ar_sortRow 35 = .ok (.dcmp .l, 1) := by decide +kernel
theorem d_Ar_sortRow_36 : decode b_Ar_sortRow 36 = .ok (.ifCond .le 25, 3) := by decide +kernel
theorem d_Ar_sortRow_39 : decode b_Ar_sortRow 39 = .ok (.aload_n 0, 1) := by decide +kernel
theorem d_Ar_sortRow_40 : decode b_Ar_sortRow 40 = .ok (.getfield 20, 3) := by decide +kernel
theorem d_Ar_sortRow_43 : decode b_Ar_sortRow 43 = .ok (.iload 4, 2) := by decide +kernel
theorem d_Ar_sortRow_45 : decode b_Ar_sortRow 45 = .ok (.aload_n 0, 1) := by decide +kernel
theorem d_Ar_sortRow_46 : decode b_Ar_sortRow 46 = .ok (.getfield 20, 3) := by decide +kernel
theorem d_Ar_sortRow_49 : decode b_Ar_sortRow 49 = .ok (.iload 4, 2) := by decide +kernel
theorem d_Ar_sortRow_51 : decode b_Ar_sortRow 51 = .ok (.iconst 1, 1) := by decide +kernel
theorem d_Ar_sortRow_52 : decode b_Ar_sortRow 52 = .ok (.isub, 1) := by decide +kernel
theorem d_Ar_sortRow_53 : decode b_Ar_sortRow 53 = .ok (.daload, 1) := by decide +kernel
theorem d_Ar_sortRow_54 : decode b_Ar_sortRow 54 = .ok (.dastore, 1) := by decide +kernel
theorem d_Ar_sortRow_55 : decode b_Ar_sortRow 55 = .ok (.iinc 4 (-1), 3) := by decide +kernel
theorem d_Ar_sortRow_58 : decode b_Ar_sortRow 58 = .ok (.goto (-38), 3) := by decide +kernel
theorem d_Ar_sortRow_61 : decode b_Ar_sortRow 61 = .ok (.aload_n 0, 1) := by decide +kernel
theorem d_Ar_sortRow_62 : decode b_Ar_sortRow 62 = .ok (.getfield 20, 3) := by decide +kernel
theorem d_Ar_sortRow_65 : decode b_Ar_sortRow 65 = .ok (.iload 4, 2) := by decide +kernel
theorem d_Ar_sortRow_67 : decode b_Ar_sortRow 67 = .ok (.dload_n 2, 1) := by decide +kernel
theorem d_Ar_sortRow_68 : decode b_Ar_sortRow 68 = .ok (.dastore, 1) := by decide +kernel
theorem d_Ar_sortRow_69 : decode b_Ar_sortRow 69 = .ok (.iinc 1 1, 3) := by decide +kernel
theorem d_Ar_sortRow_72 : decode b_Ar_sortRow 72 = .ok (.goto (-70), 3) := by decide +kernel
theorem d_Ar_sortRow_75 : decode b_Ar_sortRow 75 = .ok (.return_, 1) := by decide +kernel
theorem p_Ar_sortRow_b61 (d : Nat) (b2 : Option Nat → Int32 → gk_H → Option (Unit × gk_H)) (q2 : ∀ (v0 : Option Nat) (v1 : Int32) (h : gk_H), gk_P gw_V d y_Ar_sortRow b_Ar_sortRow 5 none [] (b2 v0 v1 h) 2 [(0, va_rf v0), (1, .int v1)] [] h) (v0 : Option Nat) (v1 : Int32) (v2 : UInt64) (v4 : Int32) (h : gk_H) : gk_P gw_V d y_Ar_sortRow b_Ar_sortRow 5 none [] (f_Ar_sortRow_b61 b2 v0 v1 v2 v4 h) 61 [(0, va_rf v0), (1, .int v1), (2, .double v2), (4, .int v4)] [] h := by
  unfold f_Ar_sortRow_b61
  refine gk_aload_n (pc := 61) 0 d_Ar_sortRow_61 rfl ?_
  refine gk_getR (pc := 62) 4 4 d_Ar_sortRow_62 rfl (Nat.le_of_ble_eq_true rfl) tw_264 fun x1 => ?_
  refine gk_iload (pc := 65) 3 d_Ar_sortRow_65 rfl ?_
  refine gk_dload_n (pc := 67) 2 d_Ar_sortRow_67 rfl ?_
  refine gk_dast (pc := 68) d_Ar_sortRow_68 fun h1 => ?_
  refine gk_iincN (pc := 69) 1 (1 : Int32) (L' := fun x2 => [(1, .int x2), (0, va_rf v0), (2, .double v2), (4, .int v4)]) d_Ar_sortRow_69 rfl rfl (Nat.le_of_ble_eq_true rfl) (fun _ => by simp [gk_s1, gk_cat_rf, gk_catI, gk_catJ, gk_catD] <;> decide) fun x2 => ?_
  refine gk_goto (pc := 72) 2 d_Ar_sortRow_72 rfl ?_
  refine gk_weak [1, 0] (L' := [(0, va_rf v0), (1, .int x2)]) rfl ?_
  exact q2 v0 x2 h1
theorem p_Ar_sortRow_b20 (d : Nat) (b2 : Option Nat → Int32 → gk_H → Option (Unit × gk_H)) (q2 : ∀ (v0 : Option Nat) (v1 : Int32) (h : gk_H), gk_P gw_V d y_Ar_sortRow b_Ar_sortRow 5 none [] (b2 v0 v1 h) 2 [(0, va_rf v0), (1, .int v1)] [] h) : ∀ (fu : Nat) (v0 : Option Nat) (v1 : Int32) (v2 : UInt64) (v4 : Int32) (h : gk_H), gk_P gw_V d y_Ar_sortRow b_Ar_sortRow 5 none [] (f_Ar_sortRow_b20 b2 fu v0 v1 v2 v4 h) 20 [(0, va_rf v0), (1, .int v1), (2, .double v2), (4, .int v4)] [] h := by
  intro fu
  induction fu with
  | zero => intros; exact gk_none
  | succ fu q20 =>
    intro v0 v1 v2 v4 h
    rw [f_Ar_sortRow_b20]
    refine gk_iload (pc := 20) 3 d_Ar_sortRow_20 rfl ?_
    refine gk_if_le (pc := 22) 61 d_Ar_sortRow_22 rfl (fun _ => ?_) (fun _ => ?_)
    · exact p_Ar_sortRow_b61 d b2 q2 v0 v1 v2 v4 h
    · refine gk_aload_n (pc := 25) 0 d_Ar_sortRow_25 rfl ?_
      refine gk_getR (pc := 26) 4 4 d_Ar_sortRow_26 rfl (Nat.le_of_ble_eq_true rfl) tw_264 fun x1 => ?_
      refine gk_iload (pc := 29) 3 d_Ar_sortRow_29 rfl ?_
      refine gk_iconst (pc := 31) (1 : Int32) d_Ar_sortRow_31 rfl ?_
      refine gk_isub (pc := 32) d_Ar_sortRow_32 ?_
      refine gk_dald (pc := 33) d_Ar_sortRow_33 fun x2 => ?_
      refine gk_dload_n (pc := 34) 2 d_Ar_sortRow_34 rfl ?_
      refine gk_dcmp (pc := 35) d_Ar_sortRow_35 ?_
      refine gk_if_le (pc := 36) 61 d_Ar_sortRow_36 rfl (fun _ => ?_) (fun _ => ?_)
      · exact p_Ar_sortRow_b61 d b2 q2 v0 v1 v2 v4 h
      · refine gk_aload_n (pc := 39) 0 d_Ar_sortRow_39 rfl ?_
        refine gk_getR (pc := 40) 4 4 d_Ar_sortRow_40 rfl (Nat.le_of_ble_eq_true rfl) tw_264 fun x3 => ?_
        refine gk_iload (pc := 43) 3 d_Ar_sortRow_43 rfl ?_
        refine gk_aload_n (pc := 45) 0 d_Ar_sortRow_45 rfl ?_
        refine gk_getR (pc := 46) 4 4 d_Ar_sortRow_46 rfl (Nat.le_of_ble_eq_true rfl) tw_264 fun x4 => ?_
        refine gk_iload (pc := 49) 3 d_Ar_sortRow_49 rfl ?_
        refine gk_iconst (pc := 51) (1 : Int32) d_Ar_sortRow_51 rfl ?_
        refine gk_isub (pc := 52) d_Ar_sortRow_52 ?_
        refine gk_dald (pc := 53) d_Ar_sortRow_53 fun x5 => ?_
        refine gk_dast (pc := 54) d_Ar_sortRow_54 fun h1 => ?_
        refine gk_iincN (pc := 55) 3 (-1 : Int32) (L' := fun x6 => [(4, .int x6), (0, va_rf v0), (1, .int v1), (2, .double v2)]) d_Ar_sortRow_55 rfl rfl (Nat.le_of_ble_eq_true rfl) (fun _ => rfl) fun x6 => ?_
        refine gk_goto (pc := 58) 20 d_Ar_sortRow_58 rfl ?_
        refine gk_weak [1, 2, 3, 0] (L' := [(0, va_rf v0), (1, .int v1), (2, .double v2), (4, .int x6)]) rfl ?_
        exact q20 v0 v1 v2 x6 h1
theorem p_Ar_sortRow_b2 (d : Nat)  : ∀ (fu : Nat) (v0 : Option Nat) (v1 : Int32) (h : gk_H), gk_P gw_V d y_Ar_sortRow b_Ar_sortRow 5 none [] (f_Ar_sortRow_b2  fu v0 v1 h) 2 [(0, va_rf v0), (1, .int v1)] [] h := by
  intro fu
  induction fu with
  | zero => intros; exact gk_none
  | succ fu q2 =>
    intro v0 v1 h
    rw [f_Ar_sortRow_b2]
    refine gk_iload_n (pc := 2) 1 d_Ar_sortRow_2 rfl ?_
    refine gk_aload_n (pc := 3) 0 d_Ar_sortRow_3 rfl ?_
    refine gk_getI (pc := 4) 4 5 d_Ar_sortRow_4 rfl (Nat.le_of_ble_eq_true rfl) tw_265 fun x1 => ?_
    refine gk_icmp_ge (pc := 7) 75 d_Ar_sortRow_7 rfl (fun _ => ?_) (fun _ => ?_)
    · exact gk_vret (pc := 75) rfl d_Ar_sortRow_75 rfl
    · refine gk_aload_n (pc := 10) 0 d_Ar_sortRow_10 rfl ?_
      refine gk_getR (pc := 11) 4 4 d_Ar_sortRow_11 rfl (Nat.le_of_ble_eq_true rfl) tw_264 fun x2 => ?_
      refine gk_iload_n (pc := 14) 1 d_Ar_sortRow_14 rfl ?_
      refine gk_dald (pc := 15) d_Ar_sortRow_15 fun x3 => ?_
      refine gk_dstore_n (pc := 16) (L' := [(2, .double x3), (0, va_rf v0), (1, .int v1)]) d_Ar_sortRow_16 (Nat.le_of_ble_eq_true rfl) rfl ?_
      refine gk_iload_n (pc := 17) 2 d_Ar_sortRow_17 rfl ?_
      refine gk_istore (pc := 18) (L' := [(4, .int v1), (2, .double x3), (0, va_rf v0), (1, .int v1)]) d_Ar_sortRow_18 (Nat.le_of_ble_eq_true rfl) rfl ?_
      refine gk_weak [2, 3, 1, 0] (L' := [(0, va_rf v0), (1, .int v1), (2, .double x3), (4, .int v1)]) rfl ?_
      exact p_Ar_sortRow_b20 d (f_Ar_sortRow_b2 fu) q2 gk_F v0 v1 x3 v1 h
theorem w_Ar_sortRow (d : Nat) (a0 : Option Nat) (h : gk_H) : gk_P gw_V d y_Ar_sortRow b_Ar_sortRow 5 none [] (f_Ar_sortRow a0 h) 0 [(0, va_rf a0)] [] h := by
  unfold f_Ar_sortRow
  refine gk_iconst (pc := 0) (1 : Int32) d_Ar_sortRow_0 rfl ?_
  refine gk_istore_n (pc := 1) (L' := [(1, .int (1 : Int32)), (0, va_rf a0)]) d_Ar_sortRow_1 (Nat.le_of_ble_eq_true rfl) (by simp [gk_s1, gk_s2, gk_cat_rf, gk_catI, gk_catJ, gk_catD] <;> decide) ?_
  refine gk_weak [1, 0] (L' := [(0, va_rf a0), (1, .int (1 : Int32))]) rfl ?_
  exact p_Ar_sortRow_b2 d gk_F a0 (1 : Int32) h
theorem p_Ar_sortRow (d : Nat) (a0 : Option Nat) (h : gk_H) : ∀ r h1, f_Ar_sortRow a0 h = some (r, h1) → gk_M d y_Ar_sortRow b_Ar_sortRow 5 none [va_rf a0] h (.inl (gv_V r)) h1 :=
  fun r h1 e => gk_M_of2 (by decide +kernel) (by simp [lv_args, gk_cat_rf, gk_catI, gk_catJ, gk_catD, gv_V, gv_I, gv_J, gv_D, gv_R]) (by simp [lg_sl, gk_cat_rf, gk_catI, gk_catJ, gk_catD, gv_V, gv_I, gv_J, gv_D, gv_R]) (w_Ar_sortRow d a0 h r h1 e)
theorem d_Su_atRank_0 : decode b_Su_atRank 0 = .ok (.aload_n 1, 1) := by decide +kernel
theorem d_Su_atRank_1 : decode b_Su_atRank 1 = .ok (.iconst 0, 1) := by decide +kernel
theorem d_Su_atRank_2 : decode b_Su_atRank 2 = .ok (.invokevirtual 125, 3) := by decide +kernel
theorem d_Su_atRank_5 : decode b_Su_atRank 5 = .ok (.aload_n 1, 1) := by decide +kernel
theorem d_Su_atRank_6 : decode b_Su_atRank 6 = .ok (.iconst 1, 1) := by decide +kernel
theorem d_Su_atRank_7 : decode b_Su_atRank 7 = .ok (.invokevirtual 129, 3) := by decide +kernel
theorem d_Su_atRank_10 : decode b_Su_atRank 10 = .ok (.lstore_n 2, 1) := by decide +kernel
theorem d_Su_atRank_11 : decode b_Su_atRank 11 = .ok (.aload_n 1, 1) := by decide +kernel
theorem d_Su_atRank_12 : decode b_Su_atRank 12 = .ok (.invokevirtual 61, 3) := by decide +kernel
theorem d_Su_atRank_15 : decode b_Su_atRank 15 = .ok (.istore 4, 2) := by decide +kernel
theorem d_Su_atRank_17 : decode b_Su_atRank 17 = .ok (.lload_n 2, 1) := by decide +kernel
theorem d_Su_atRank_18 : decode b_Su_atRank 18 = .ok (.lconst 1, 1) := by decide +kernel
theorem d_Su_atRank_19 : decode b_Su_atRank 19 = .ok (.lcmp, 1) := by decide +kernel
theorem d_Su_atRank_20 : decode b_Su_atRank 20 = .ok (.ifCond .lt 11, 3) := by decide +kernel
theorem d_Su_atRank_23 : decode b_Su_atRank 23 = .ok (.lload_n 2, 1) := by decide +kernel
theorem d_Su_atRank_24 : decode b_Su_atRank 24 = .ok (.iload 4, 2) := by decide +kernel
theorem d_Su_atRank_26 : decode b_Su_atRank 26 = .ok (.i2l, 1) := by decide +kernel
theorem d_Su_atRank_27 : decode b_Su_atRank 27 = .ok (.lcmp, 1) := by decide +kernel
theorem d_Su_atRank_28 : decode b_Su_atRank 28 = .ok (.ifCond .le 9, 3) := by decide +kernel
theorem d_Su_atRank_31 : decode b_Su_atRank 31 = .ok (.bipush 6, 2) := by decide +kernel
theorem d_Su_atRank_33 : decode b_Su_atRank 33 = .ok (.invokestatic 69, 3) := by decide +kernel
theorem d_Su_atRank_36 : decode b_Su_atRank 36 = .ok (.areturn, 1) := by decide +kernel
theorem d_Su_atRank_37 : decode b_Su_atRank 37 = .ok (.aload_n 1, 1) := by decide +kernel
theorem d_Su_atRank_38 : decode b_Su_atRank 38 = .ok (.invokevirtual 80, 3) := by decide +kernel
theorem d_Su_atRank_41 : decode b_Su_atRank 41 = .ok (.iload_n 0, 1) := by decide +kernel
theorem d_Su_atRank_42 : decode b_Su_atRank 42 = .ok (.bipush 10, 2) := by decide +kernel
theorem d_Su_atRank_44 : decode b_Su_atRank 44 = .ok (.if_icmp .ne 11, 3) := by decide +kernel
theorem d_Su_atRank_47 : decode b_Su_atRank 47 = .ok (.iload 4, 2) := by decide +kernel
theorem d_Su_atRank_49 : decode b_Su_atRank 49 = .ok (.i2l, 1) := by decide +kernel
theorem d_Su_atRank_50 : decode b_Su_atRank 50 = .ok (.lload_n 2, 1) := by decide +kernel
theorem d_Su_atRank_51 : decode b_Su_atRank 51 = .ok (.lsub, 1) := by decide +kernel
theorem d_Su_atRank_52 : decode b_Su_atRank 52 = .ok (.goto 6, 3) := by decide +kernel
theorem d_Su_atRank_55 : decode b_Su_atRank 55 = .ok (.lload_n 2, 1) := by decide +kernel
theorem d_Su_atRank_56 : decode b_Su_atRank 56 = .ok (.lconst 1, 1) := by decide +kernel
theorem d_Su_atRank_57 : decode b_Su_atRank 57 = .ok (.lsub, 1) := by decide +kernel
theorem d_Su_atRank_58 : decode b_Su_atRank 58 = .ok (.l2i, 1) := by decide +kernel
theorem d_Su_atRank_59 : decode b_Su_atRank 59 = .ok (.istore 5, 2) := by decide +kernel
theorem d_Su_atRank_61 : decode b_Su_atRank 61 = .ok (.aload_n 1, 1) := by decide +kernel
theorem d_Su_atRank_62 : decode b_Su_atRank 62 = .ok (.iload 5, 2) := by decide +kernel
theorem d_Su_atRank_64 : decode b_Su_atRank 64 = .ok (.invokevirtual 77, 3) := by decide +kernel
theorem d_Su_atRank_67 : decode b_Su_atRank 67 = .ok (.invokestatic 38, 3) := by decide +kernel
theorem d_Su_atRank_70 : decode b_Su_atRank 70 = .ok (.areturn, 1) := by decide +kernel
theorem p_Su_atRank_b31 (d : Nat)   (h : gk_H) : gk_P gw_R (d + 8) y_Su_atRank b_Su_atRank 6 (some (.object "ValueAlgebra$Value")) [] (f_Su_atRank_b31   h) 31 [] [] h := by
  unfold f_Su_atRank_b31
  refine gk_bipush (pc := 31) (6 : Int32) d_Su_atRank_31 rfl ?_
  refine gk_callS (pc := 33) (d := (d + 7)) (w' := gv_R) (as := [.int (6 : Int32)]) (n := 1) d_Su_atRank_33 rfl rfl (Nat.le_of_ble_eq_true rfl) tw_1074 tw_236 tw_97 cw_Va_ofError hy_Va_ofError (Nat.le_of_ble_eq_true rfl) (p_Va_ofError (d + 5) (6 : Int32) h) fun x1 h1 => ?_
  exact gk_aret (pc := 36) rfl d_Su_atRank_36 rfl (Or.inl ⟨_, rfl⟩)
theorem p_Su_atRank_b58 (d : Nat)  (v1 : Option Nat) (s0 : Int64) (h : gk_H) : gk_P gw_R (d + 8) y_Su_atRank b_Su_atRank 6 (some (.object "ValueAlgebra$Value")) [] (f_Su_atRank_b58  v1 s0 h) 58 [(1, va_rf v1)] [.long s0] h := by
  unfold f_Su_atRank_b58
  refine gk_l2i (pc := 58) d_Su_atRank_58 ?_
  refine gk_topI (pc := 59) fun x1 => ?_
  refine gk_istore (pc := 59) (L' := [(5, .int x1), (1, va_rf v1)]) d_Su_atRank_59 (Nat.le_of_ble_eq_true rfl) rfl ?_
  refine gk_aload_n (pc := 61) 1 d_Su_atRank_61 rfl ?_
  refine gk_iload (pc := 62) 0 d_Su_atRank_62 rfl ?_
  refine gk_callV (pc := 64) (d := (d + 7)) (w' := gv_D) (as := [.int x1]) (n := 1) 4 d_Su_atRank_64 rfl rfl rfl rfl (Nat.le_of_ble_eq_true rfl) tw_1079 tw_1080 tw_1081 tw_96 cw_Ar_ofRow hy_Ar_ofRow (Nat.le_of_ble_eq_true rfl) (p_Ar_ofRow (d + 7) v1 x1 h) fun x2 h1 => ?_
  refine gk_callS (pc := 67) (d := (d + 7)) (w' := gv_R) (as := [.double x2]) (n := 1) d_Su_atRank_67 rfl rfl (Nat.le_of_ble_eq_true rfl) tw_1047 tw_317 tw_97 cw_Va_ofNumber hy_Va_ofNumber (Nat.le_of_ble_eq_true rfl) (p_Va_ofNumber (d + 5) x2 h1) fun x3 h2 => ?_
  exact gk_aret (pc := 70) rfl d_Su_atRank_70 rfl (Or.inl ⟨_, rfl⟩)
theorem w_Su_atRank (d : Nat) (a0 : Int32) (a1 : Option Nat) (h : gk_H) : gk_P gw_R (d + 8) y_Su_atRank b_Su_atRank 6 (some (.object "ValueAlgebra$Value")) [] (f_Su_atRank a0 a1 h) 0 [(0, .int a0), (1, va_rf a1)] [] h := by
  unfold f_Su_atRank
  refine gk_aload_n (pc := 0) 1 d_Su_atRank_0 rfl ?_
  refine gk_iconst (pc := 1) (0 : Int32) d_Su_atRank_1 rfl ?_
  refine gk_callV (pc := 2) (d := (d + 7)) (w' := gv_V) (as := [.int (0 : Int32)]) (n := 1) 4 d_Su_atRank_2 rfl rfl rfl rfl (Nat.le_of_ble_eq_true rfl) tw_1051 tw_1052 tw_1053 tw_96 cw_Ar_gatherCells hy_Ar_gatherCells (Nat.le_of_ble_eq_true rfl) (p_Ar_gatherCells (d + 5) a1 (0 : Int32) h) fun _ h1 => ?_
  refine gk_aload_n (pc := 5) 1 d_Su_atRank_5 rfl ?_
  refine gk_iconst (pc := 6) (1 : Int32) d_Su_atRank_6 rfl ?_
  refine gk_callV (pc := 7) (d := (d + 7)) (w' := gv_J) (as := [.int (1 : Int32)]) (n := 1) 4 d_Su_atRank_7 rfl rfl rfl rfl (Nat.le_of_ble_eq_true rfl) tw_1064 tw_1065 tw_1066 tw_96 cw_Ar_whole hy_Ar_whole (Nat.le_of_ble_eq_true rfl) (p_Ar_whole d a1 (1 : Int32) h1) fun x1 h2 => ?_
  refine gk_lstore_n (pc := 10) (L' := [(2, .long x1), (0, .int a0), (1, va_rf a1)]) d_Su_atRank_10 (Nat.le_of_ble_eq_true rfl) (by simp [gk_s1, gk_s2, gk_cat_rf, gk_catI, gk_catJ, gk_catD] <;> decide) ?_
  refine gk_aload_n (pc := 11) 2 d_Su_atRank_11 rfl ?_
  refine gk_callV (pc := 12) (d := (d + 7)) (w' := gv_I) (as := []) (n := 0) 4 d_Su_atRank_12 rfl rfl rfl rfl (Nat.le_of_ble_eq_true rfl) tw_1070 tw_1071 tw_1072 tw_96 cw_Ar_inRow hy_Ar_inRow (Nat.le_of_ble_eq_true rfl) (p_Ar_inRow (d + 7) a1 h2) fun x2 h3 => ?_
  refine gk_istore (pc := 15) (L' := [(4, .int x2), (2, .long x1), (0, .int a0), (1, va_rf a1)]) d_Su_atRank_15 (Nat.le_of_ble_eq_true rfl) rfl ?_
  refine gk_lload_n (pc := 17) 1 d_Su_atRank_17 rfl ?_
  refine gk_lconst (pc := 18) (1 : Int64) d_Su_atRank_18 rfl ?_
  refine gk_lcmp (pc := 19) d_Su_atRank_19 ?_
  refine gk_if_lt (pc := 20) 31 d_Su_atRank_20 rfl (fun _ => ?_) (fun _ => ?_)
  · refine gk_weak [] (L' := []) rfl ?_
    exact p_Su_atRank_b31 d h3
  · refine gk_lload_n (pc := 23) 1 d_Su_atRank_23 rfl ?_
    refine gk_iload (pc := 24) 0 d_Su_atRank_24 rfl ?_
    refine gk_i2l (pc := 26) d_Su_atRank_26 ?_
    refine gk_lcmp (pc := 27) d_Su_atRank_27 ?_
    refine gk_if_le (pc := 28) 37 d_Su_atRank_28 rfl (fun _ => ?_) (fun _ => ?_)
    · refine gk_aload_n (pc := 37) 3 d_Su_atRank_37 rfl ?_
      refine gk_callV (pc := 38) (d := (d + 7)) (w' := gv_V) (as := []) (n := 0) 4 d_Su_atRank_38 rfl rfl rfl rfl (Nat.le_of_ble_eq_true rfl) tw_1075 tw_1076 tw_1077 tw_96 cw_Ar_sortRow hy_Ar_sortRow (Nat.le_of_ble_eq_true rfl) (p_Ar_sortRow (d + 7) a1 h3) fun _ h4 => ?_
      refine gk_iload_n (pc := 41) 2 d_Su_atRank_41 rfl ?_
      refine gk_bipush (pc := 42) (10 : Int32) d_Su_atRank_42 rfl ?_
      refine gk_icmp_ne (pc := 44) 55 d_Su_atRank_44 rfl (fun _ => ?_) (fun _ => ?_)
      · refine gk_iload (pc := 47) 0 d_Su_atRank_47 rfl ?_
        refine gk_i2l (pc := 49) d_Su_atRank_49 ?_
        refine gk_lload_n (pc := 50) 1 d_Su_atRank_50 rfl ?_
        refine gk_lsub (pc := 51) d_Su_atRank_51 ?_
        refine gk_goto (pc := 52) 58 d_Su_atRank_52 rfl ?_
        refine gk_weak [3] (L' := [(1, va_rf a1)]) rfl ?_
        exact p_Su_atRank_b58 d a1 ((Int32.toInt64 x2) - x1) h4
      · refine gk_lload_n (pc := 55) 1 d_Su_atRank_55 rfl ?_
        refine gk_lconst (pc := 56) (1 : Int64) d_Su_atRank_56 rfl ?_
        refine gk_lsub (pc := 57) d_Su_atRank_57 ?_
        refine gk_weak [3] (L' := [(1, va_rf a1)]) rfl ?_
        exact p_Su_atRank_b58 d a1 (x1 - (1 : Int64)) h4
    · refine gk_weak [] (L' := []) rfl ?_
      exact p_Su_atRank_b31 d h3
theorem p_Su_atRank (d : Nat) (a0 : Int32) (a1 : Option Nat) (h : gk_H) : ∀ r h1, f_Su_atRank a0 a1 h = some (r, h1) → gk_M (d + 8) y_Su_atRank b_Su_atRank 6 (some (.object "ValueAlgebra$Value")) [.int a0, va_rf a1] h (.inl (gv_R r)) h1 :=
  fun r h1 e => gk_M_of2 (by decide +kernel) (by simp [lv_args, gk_cat_rf, gk_catI, gk_catJ, gk_catD, gv_V, gv_I, gv_J, gv_D, gv_R]) (by simp [lg_sl, gk_cat_rf, gk_catI, gk_catJ, gk_catD, gv_V, gv_I, gv_J, gv_D, gv_R]) (w_Su_atRank d a0 a1 h r h1 e)
theorem d_Su_counts_0 : decode b_Su_counts 0 = .ok (.iload_n 0, 1) := by decide +kernel
theorem d_Su_counts_1 : decode b_Su_counts 1 = .ok (.bipush 8, 2) := by decide +kernel
theorem d_Su_counts_3 : decode b_Su_counts 3 = .ok (.if_icmp .ne 34, 3) := by decide +kernel
theorem d_Su_counts_6 : decode b_Su_counts 6 = .ok (.aload_n 1, 1) := by decide +kernel
theorem d_Su_counts_7 : decode b_Su_counts 7 = .ok (.getfield 85, 3) := by decide +kernel
theorem d_Su_counts_10 : decode b_Su_counts 10 = .ok (.ifCond .eq 21, 3) := by decide +kernel
theorem d_Su_counts_13 : decode b_Su_counts 13 = .ok (.aload_n 1, 1) := by decide +kernel
theorem d_Su_counts_14 : decode b_Su_counts 14 = .ok (.getfield 85, 3) := by decide +kernel
theorem d_Su_counts_17 : decode b_Su_counts 17 = .ok (.iconst 2, 1) := by decide +kernel
theorem d_Su_counts_18 : decode b_Su_counts 18 = .ok (.if_icmp .ne 17, 3) := by decide +kernel
theorem d_Su_counts_21 : decode b_Su_counts 21 = .ok (.aload_n 1, 1) := by decide +kernel
theorem d_Su_counts_22 : decode b_Su_counts 22 = .ok (.getfield 109, 3) := by decide +kernel
theorem d_Su_counts_25 : decode b_Su_counts 25 = .ok (.invokevirtual 113, 3) := by decide +kernel
theorem d_Su_counts_28 : decode b_Su_counts 28 = .ok (.ifCond .eq 7, 3) := by decide +kernel
theorem d_Su_counts_31 : decode b_Su_counts 31 = .ok (.iconst 1, 1) := by decide +kernel
theorem d_Su_counts_32 : decode b_Su_counts 32 = .ok (.goto 4, 3) := by decide +kernel
theorem d_Su_counts_35 : decode b_Su_counts 35 = .ok (.iconst 0, 1) := by decide +kernel
theorem d_Su_counts_36 : decode b_Su_counts 36 = .ok (.ireturn, 1) := by decide +kernel
theorem d_Su_counts_37 : decode b_Su_counts 37 = .ok (.iload_n 0, 1) := by decide +kernel
theorem d_Su_counts_38 : decode b_Su_counts 38 = .ok (.bipush 7, 2) := by decide +kernel
theorem d_Su_counts_40 : decode b_Su_counts 40 = .ok (.if_icmp .ne 20, 3) := by decide +kernel
theorem d_Su_counts_43 : decode b_Su_counts 43 = .ok (.iload_n 2, 1) := by decide +kernel
theorem d_Su_counts_44 : decode b_Su_counts 44 = .ok (.ifCond .ne 10, 3) := by decide +kernel
theorem d_Su_counts_47 : decode b_Su_counts 47 = .ok (.aload_n 1, 1) := by decide +kernel
theorem d_Su_counts_48 : decode b_Su_counts 48 = .ok (.getfield 85, 3) := by decide +kernel
theorem d_Su_counts_51 : decode b_Su_counts 51 = .ok (.ifCond .eq 7, 3) := by decide +kernel
theorem d_Su_counts_54 : decode b_Su_counts 54 = .ok (.iconst 1, 1) := by decide +kernel
theorem d_Su_counts_55 : decode b_Su_counts 55 = .ok (.goto 4, 3) := by decide +kernel
theorem d_Su_counts_58 : decode b_Su_counts 58 = .ok (.iconst 0, 1) := by decide +kernel
theorem d_Su_counts_59 : decode b_Su_counts 59 = .ok (.ireturn, 1) := by decide +kernel
theorem d_Su_counts_60 : decode b_Su_counts 60 = .ok (.iload_n 2, 1) := by decide +kernel
theorem d_Su_counts_61 : decode b_Su_counts 61 = .ok (.ifCond .eq 11, 3) := by decide +kernel
theorem d_Su_counts_64 : decode b_Su_counts 64 = .ok (.aload_n 1, 1) := by decide +kernel
theorem d_Su_counts_65 : decode b_Su_counts 65 = .ok (.getfield 85, 3) := by decide +kernel
theorem d_Su_counts_68 : decode b_Su_counts 68 = .ok (.iconst 1, 1) := by decide +kernel
theorem d_Su_counts_69 : decode b_Su_counts 69 = .ok (.if_icmp .ne 17, 3) := by decide +kernel
theorem d_Su_counts_72 : decode b_Su_counts 72 = .ok (.aload_n 1, 1) := by decide +kernel
theorem d_Su_counts_73 : decode b_Su_counts 73 = .ok (.getfield 85, 3) := by decide +kernel
theorem d_Su_counts_76 : decode b_Su_counts 76 = .ok (.iconst 1, 1) := by decide +kernel
theorem d_Su_counts_77 : decode b_Su_counts 77 = .ok (.if_icmp .ne 7, 3) := by decide +kernel
theorem d_Su_counts_80 : decode b_Su_counts 80 = .ok (.iconst 1, 1) := by decide +kernel
theorem d_Su_counts_81 : decode b_Su_counts 81 = .ok (.goto 4, 3) := by decide +kernel
theorem d_Su_counts_84 : decode b_Su_counts 84 = .ok (.iconst 0, 1) := by decide +kernel
theorem d_Su_counts_85 : decode b_Su_counts 85 = .ok (.ireturn, 1) := by decide +kernel
theorem d_Su_counts_86 : decode b_Su_counts 86 = .ok (.aload_n 1, 1) := by decide +kernel
theorem d_Su_counts_87 : decode b_Su_counts 87 = .ok (.getfield 85, 3) := by decide +kernel
theorem d_Su_counts_90 : decode b_Su_counts 90 = .ok (.iconst 2, 1) := by decide +kernel
theorem d_Su_counts_91 : decode b_Su_counts 91 = .ok (.if_icmp .ne 11, 3) := by decide +kernel
theorem d_Su_counts_94 : decode b_Su_counts 94 = .ok (.aload_n 1, 1) := by decide +kernel
theorem d_Su_counts_95 : decode b_Su_counts 95 = .ok (.getfield 109, 3) := by decide +kernel
theorem d_Su_counts_98 : decode b_Su_counts 98 = .ok (.invokestatic 119, 3) := by decide +kernel
theorem d_Su_counts_101 : decode b_Su_counts 101 = .ok (.ireturn, 1) := by decide +kernel
theorem d_Su_counts_102 : decode b_Su_counts 102 = .ok (.aload_n 1, 1) := by decide +kernel
theorem d_Su_counts_103 : decode b_Su_counts 103 = .ok (.getfield 85, 3) := by decide +kernel
theorem d_Su_counts_106 : decode b_Su_counts 106 = .ok (.ifCond .eq 11, 3) := by decide +kernel
theorem d_Su_counts_109 : decode b_Su_counts 109 = .ok (.aload_n 1, 1) := by decide +kernel
theorem d_Su_counts_110 : decode b_Su_counts 110 = .ok (.getfield 85, 3) := by decide +kernel
theorem d_Su_counts_113 : decode b_Su_counts 113 = .ok (.iconst 3, 1) := by decide +kernel
theorem d_Su_counts_114 : decode b_Su_counts 114 = .ok (.if_icmp .ne 7, 3) := by decide +kernel
theorem d_Su_counts_117 : decode b_Su_counts 117 = .ok (.iconst 1, 1) := by decide +kernel
theorem d_Su_counts_118 : decode b_Su_counts 118 = .ok (.goto 4, 3) := by decide +kernel
theorem d_Su_counts_121 : decode b_Su_counts 121 = .ok (.iconst 0, 1) := by decide +kernel
theorem d_Su_counts_122 : decode b_Su_counts 122 = .ok (.ireturn, 1) := by decide +kernel
theorem p_Su_counts_b85 (d : Nat)  (s0 : Int32) (h : gk_H) : gk_P gw_I (d + 6) y_Su_counts b_Su_counts 3 (some .boolean) [] (f_Su_counts_b85  s0 h) 85 [] [.int s0] h := by
  unfold f_Su_counts_b85
  exact gk_zret (pc := 85) rfl d_Su_counts_85 rfl
theorem p_Su_counts_b72 (d : Nat)  (v1 : Option Nat) (h : gk_H) : gk_P gw_I (d + 6) y_Su_counts b_Su_counts 3 (some .boolean) [] (f_Su_counts_b72  v1 h) 72 [(1, va_rf v1)] [] h := by
  unfold f_Su_counts_b72
  refine gk_aload_n (pc := 72) 0 d_Su_counts_72 rfl ?_
  refine gk_getI (pc := 73) 2 0 d_Su_counts_73 rfl (Nat.le_of_ble_eq_true rfl) tw_192 fun x1 => ?_
  refine gk_iconst (pc := 76) (1 : Int32) d_Su_counts_76 rfl ?_
  refine gk_icmp_ne (pc := 77) 84 d_Su_counts_77 rfl (fun _ => ?_) (fun _ => ?_)
  · refine gk_iconst (pc := 80) (1 : Int32) d_Su_counts_80 rfl ?_
    refine gk_goto (pc := 81) 85 d_Su_counts_81 rfl ?_
    refine gk_weak [] (L' := []) rfl ?_
    exact p_Su_counts_b85 d (1 : Int32) h
  · refine gk_iconst (pc := 84) (0 : Int32) d_Su_counts_84 rfl ?_
    refine gk_weak [] (L' := []) rfl ?_
    exact p_Su_counts_b85 d (0 : Int32) h
theorem p_Su_counts_b122 (d : Nat)  (s0 : Int32) (h : gk_H) : gk_P gw_I (d + 6) y_Su_counts b_Su_counts 3 (some .boolean) [] (f_Su_counts_b122  s0 h) 122 [] [.int s0] h := by
  unfold f_Su_counts_b122
  exact gk_zret (pc := 122) rfl d_Su_counts_122 rfl
theorem p_Su_counts_b117 (d : Nat)   (h : gk_H) : gk_P gw_I (d + 6) y_Su_counts b_Su_counts 3 (some .boolean) [] (f_Su_counts_b117   h) 117 [] [] h := by
  unfold f_Su_counts_b117
  refine gk_iconst (pc := 117) (1 : Int32) d_Su_counts_117 rfl ?_
  refine gk_goto (pc := 118) 122 d_Su_counts_118 rfl ?_
  exact p_Su_counts_b122 d (1 : Int32) h
theorem p_Su_counts_b59 (d : Nat)  (s0 : Int32) (h : gk_H) : gk_P gw_I (d + 6) y_Su_counts b_Su_counts 3 (some .boolean) [] (f_Su_counts_b59  s0 h) 59 [] [.int s0] h := by
  unfold f_Su_counts_b59
  exact gk_zret (pc := 59) rfl d_Su_counts_59 rfl
theorem p_Su_counts_b54 (d : Nat)   (h : gk_H) : gk_P gw_I (d + 6) y_Su_counts b_Su_counts 3 (some .boolean) [] (f_Su_counts_b54   h) 54 [] [] h := by
  unfold f_Su_counts_b54
  refine gk_iconst (pc := 54) (1 : Int32) d_Su_counts_54 rfl ?_
  refine gk_goto (pc := 55) 59 d_Su_counts_55 rfl ?_
  exact p_Su_counts_b59 d (1 : Int32) h
theorem p_Su_counts_b36 (d : Nat)  (s0 : Int32) (h : gk_H) : gk_P gw_I (d + 6) y_Su_counts b_Su_counts 3 (some .boolean) [] (f_Su_counts_b36  s0 h) 36 [] [.int s0] h := by
  unfold f_Su_counts_b36
  exact gk_zret (pc := 36) rfl d_Su_counts_36 rfl
theorem p_Su_counts_b31 (d : Nat)   (h : gk_H) : gk_P gw_I (d + 6) y_Su_counts b_Su_counts 3 (some .boolean) [] (f_Su_counts_b31   h) 31 [] [] h := by
  unfold f_Su_counts_b31
  refine gk_iconst (pc := 31) (1 : Int32) d_Su_counts_31 rfl ?_
  refine gk_goto (pc := 32) 36 d_Su_counts_32 rfl ?_
  exact p_Su_counts_b36 d (1 : Int32) h
theorem p_Su_counts_b35 (d : Nat)   (h : gk_H) : gk_P gw_I (d + 6) y_Su_counts b_Su_counts 3 (some .boolean) [] (f_Su_counts_b35   h) 35 [] [] h := by
  unfold f_Su_counts_b35
  refine gk_iconst (pc := 35) (0 : Int32) d_Su_counts_35 rfl ?_
  exact p_Su_counts_b36 d (0 : Int32) h
theorem w_Su_counts (d : Nat) (a0 : Int32) (a1 : Option Nat) (a2 : Int32) (h : gk_H) : gk_P gw_I (d + 6) y_Su_counts b_Su_counts 3 (some .boolean) [] (f_Su_counts a0 a1 a2 h) 0 [(0, .int a0), (1, va_rf a1), (2, .int a2)] [] h := by
  unfold f_Su_counts
  refine gk_iload_n (pc := 0) 0 d_Su_counts_0 rfl ?_
  refine gk_bipush (pc := 1) (8 : Int32) d_Su_counts_1 rfl ?_
  refine gk_icmp_ne (pc := 3) 37 d_Su_counts_3 rfl (fun _ => ?_) (fun _ => ?_)
  · refine gk_aload_n (pc := 6) 1 d_Su_counts_6 rfl ?_
    refine gk_getI (pc := 7) 2 0 d_Su_counts_7 rfl (Nat.le_of_ble_eq_true rfl) tw_192 fun x1 => ?_
    refine gk_if_eq (pc := 10) 31 d_Su_counts_10 rfl (fun _ => ?_) (fun _ => ?_)
    · refine gk_weak [] (L' := []) rfl ?_
      exact p_Su_counts_b31 d h
    · refine gk_aload_n (pc := 13) 1 d_Su_counts_13 rfl ?_
      refine gk_getI (pc := 14) 2 0 d_Su_counts_14 rfl (Nat.le_of_ble_eq_true rfl) tw_192 fun x2 => ?_
      refine gk_iconst (pc := 17) (2 : Int32) d_Su_counts_17 rfl ?_
      refine gk_icmp_ne (pc := 18) 35 d_Su_counts_18 rfl (fun _ => ?_) (fun _ => ?_)
      · refine gk_aload_n (pc := 21) 1 d_Su_counts_21 rfl ?_
        refine gk_getR (pc := 22) 2 3 d_Su_counts_22 rfl (Nat.le_of_ble_eq_true rfl) tw_210 fun x3 => ?_
        refine gk_callV (pc := 25) (d := (d + 5)) (w' := gv_I) (as := []) (n := 0) 0 d_Su_counts_25 rfl rfl rfl rfl (Nat.le_of_ble_eq_true rfl) tw_1042 tw_1043 tw_1044 tw_94 cw_St_isEmpty hy_St_isEmpty (Nat.le_of_ble_eq_true rfl) (p_St_isEmpty (d + 5) x3 h) fun x4 h1 => ?_
        refine gk_if_eq (pc := 28) 35 d_Su_counts_28 rfl (fun _ => ?_) (fun _ => ?_)
        · refine gk_weak [] (L' := []) rfl ?_
          exact p_Su_counts_b35 d h1
        · refine gk_weak [] (L' := []) rfl ?_
          exact p_Su_counts_b31 d h1
      · refine gk_weak [] (L' := []) rfl ?_
        exact p_Su_counts_b35 d h
  · refine gk_iload_n (pc := 37) 0 d_Su_counts_37 rfl ?_
    refine gk_bipush (pc := 38) (7 : Int32) d_Su_counts_38 rfl ?_
    refine gk_icmp_ne (pc := 40) 60 d_Su_counts_40 rfl (fun _ => ?_) (fun _ => ?_)
    · refine gk_iload_n (pc := 43) 2 d_Su_counts_43 rfl ?_
      refine gk_if_ne (pc := 44) 54 d_Su_counts_44 rfl (fun _ => ?_) (fun _ => ?_)
      · refine gk_aload_n (pc := 47) 1 d_Su_counts_47 rfl ?_
        refine gk_getI (pc := 48) 2 0 d_Su_counts_48 rfl (Nat.le_of_ble_eq_true rfl) tw_192 fun x5 => ?_
        refine gk_if_eq (pc := 51) 58 d_Su_counts_51 rfl (fun _ => ?_) (fun _ => ?_)
        · refine gk_iconst (pc := 58) (0 : Int32) d_Su_counts_58 rfl ?_
          refine gk_weak [] (L' := []) rfl ?_
          exact p_Su_counts_b59 d (0 : Int32) h
        · refine gk_weak [] (L' := []) rfl ?_
          exact p_Su_counts_b54 d h
      · refine gk_weak [] (L' := []) rfl ?_
        exact p_Su_counts_b54 d h
    · refine gk_iload_n (pc := 60) 2 d_Su_counts_60 rfl ?_
      refine gk_if_eq (pc := 61) 72 d_Su_counts_61 rfl (fun _ => ?_) (fun _ => ?_)
      · refine gk_weak [1] (L' := [(1, va_rf a1)]) rfl ?_
        exact p_Su_counts_b72 d a1 h
      · refine gk_aload_n (pc := 64) 1 d_Su_counts_64 rfl ?_
        refine gk_getI (pc := 65) 2 0 d_Su_counts_65 rfl (Nat.le_of_ble_eq_true rfl) tw_192 fun x6 => ?_
        refine gk_iconst (pc := 68) (1 : Int32) d_Su_counts_68 rfl ?_
        refine gk_icmp_ne (pc := 69) 86 d_Su_counts_69 rfl (fun _ => ?_) (fun _ => ?_)
        · refine gk_weak [1] (L' := [(1, va_rf a1)]) rfl ?_
          exact p_Su_counts_b72 d a1 h
        · refine gk_aload_n (pc := 86) 1 d_Su_counts_86 rfl ?_
          refine gk_getI (pc := 87) 2 0 d_Su_counts_87 rfl (Nat.le_of_ble_eq_true rfl) tw_192 fun x7 => ?_
          refine gk_iconst (pc := 90) (2 : Int32) d_Su_counts_90 rfl ?_
          refine gk_icmp_ne (pc := 91) 102 d_Su_counts_91 rfl (fun _ => ?_) (fun _ => ?_)
          · refine gk_aload_n (pc := 94) 1 d_Su_counts_94 rfl ?_
            refine gk_getR (pc := 95) 2 3 d_Su_counts_95 rfl (Nat.le_of_ble_eq_true rfl) tw_210 fun x8 => ?_
            refine gk_callS (pc := 98) (d := (d + 5)) (w' := gv_I) (as := [va_rf x8]) (n := 1) d_Su_counts_98 rfl rfl (Nat.le_of_ble_eq_true rfl) tw_1046 tw_804 tw_116 cw_Le_isNumeral hy_Le_isNumeral (Nat.le_of_ble_eq_true rfl) (p_Le_isNumeral d x8 h) fun x9 h2 => ?_
            exact gk_zret (pc := 101) rfl d_Su_counts_101 rfl
          · refine gk_aload_n (pc := 102) 1 d_Su_counts_102 rfl ?_
            refine gk_getI (pc := 103) 2 0 d_Su_counts_103 rfl (Nat.le_of_ble_eq_true rfl) tw_192 fun x10 => ?_
            refine gk_if_eq (pc := 106) 117 d_Su_counts_106 rfl (fun _ => ?_) (fun _ => ?_)
            · refine gk_weak [] (L' := []) rfl ?_
              exact p_Su_counts_b117 d h
            · refine gk_aload_n (pc := 109) 1 d_Su_counts_109 rfl ?_
              refine gk_getI (pc := 110) 2 0 d_Su_counts_110 rfl (Nat.le_of_ble_eq_true rfl) tw_192 fun x11 => ?_
              refine gk_iconst (pc := 113) (3 : Int32) d_Su_counts_113 rfl ?_
              refine gk_icmp_ne (pc := 114) 121 d_Su_counts_114 rfl (fun _ => ?_) (fun _ => ?_)
              · refine gk_weak [] (L' := []) rfl ?_
                exact p_Su_counts_b117 d h
              · refine gk_iconst (pc := 121) (0 : Int32) d_Su_counts_121 rfl ?_
                refine gk_weak [] (L' := []) rfl ?_
                exact p_Su_counts_b122 d (0 : Int32) h
theorem p_Su_counts (d : Nat) (a0 : Int32) (a1 : Option Nat) (a2 : Int32) (h : gk_H) : ∀ r h1, f_Su_counts a0 a1 a2 h = some (r, h1) → gk_M (d + 6) y_Su_counts b_Su_counts 3 (some .boolean) [.int a0, va_rf a1, .int a2] h (.inl (gv_I r)) h1 :=
  fun r h1 e => gk_M_of2 (by decide +kernel) (by simp [lv_args, gk_cat_rf, gk_catI, gk_catJ, gk_catD, gv_V, gv_I, gv_J, gv_D, gv_R]) (by simp [lg_sl, gk_cat_rf, gk_catI, gk_catJ, gk_catD, gv_V, gv_I, gv_J, gv_D, gv_R]) (w_Su_counts d a0 a1 a2 h r h1 e)
theorem d_Su_counted_0 : decode b_Su_counted 0 = .ok (.iconst 0, 1) := by decide +kernel
theorem d_Su_counted_1 : decode b_Su_counted 1 = .ok (.istore_n 2, 1) := by decide +kernel
theorem d_Su_counted_2 : decode b_Su_counted 2 = .ok (.iconst 0, 1) := by decide +kernel
theorem d_Su_counted_3 : decode b_Su_counted 3 = .ok (.istore_n 3, 1) := by decide +kernel
theorem d_Su_counted_4 : decode b_Su_counted 4 = .ok (.iload_n 3, 1) := by decide +kernel
theorem d_Su_counted_5 : decode b_Su_counted 5 = .ok (.aload_n 1, 1) := by decide +kernel
theorem d_Su_counted_6 : decode b_Su_counted 6 = .ok (.invokevirtual 93, 3) := by decide +kernel
theorem d_Su_counted_9 : decode b_Su_counted 9 = .ok (.if_icmp .ge 66, 3) := by decide +kernel
theorem d_Su_counted_12 : decode b_Su_counted 12 = .ok (.aload_n 1, 1) := by decide +kernel
theorem d_Su_counted_13 : decode b_Su_counted 13 = .ok (.iload_n 3, 1) := by decide +kernel
theorem d_Su_counted_14 : decode b_Su_counted 14 = .ok (.invokevirtual 96, 3) := by decide +kernel
theorem d_Su_counted_17 : decode b_Su_counted 17 = .ok (.astore 4, 2) := by decide +kernel
theorem d_Su_counted_19 : decode b_Su_counted 19 = .ok (.iconst 0, 1) := by decide +kernel
theorem d_Su_counted_20 : decode b_Su_counted 20 = .ok (.istore 5, 2) := by decide +kernel
theorem d_Su_counted_22 : decode b_Su_counted 22 = .ok (.iload 5, 2) := by decide +kernel
theorem d_Su_counted_24 : decode b_Su_counted 24 = .ok (.aload 4, 2) := by decide +kernel
theorem d_Su_counted_26 : decode b_Su_counted 26 = .ok (.invokevirtual 99, 3) := by decide +kernel
theorem d_Su_counted_29 : decode b_Su_counted 29 = .ok (.if_icmp .ge 40, 3) := by decide +kernel
theorem d_Su_counted_32 : decode b_Su_counted 32 = .ok (.iload_n 0, 1) := by decide +kernel
theorem d_Su_counted_33 : decode b_Su_counted 33 = .ok (.aload 4, 2) := by decide +kernel
theorem d_Su_counted_35 : decode b_Su_counted 35 = .ok (.iload 5, 2) := by decide +kernel
theorem d_Su_counted_37 : decode b_Su_counted 37 = .ok (.invokevirtual 102, 3) := by decide +kernel
theorem d_Su_counted_40 : decode b_Su_counted 40 = .ok (.aload 4, 2) := by decide +kernel
theorem d_Su_counted_42 : decode b_Su_counted 42 = .ok (.getfield 85, 3) := by decide +kernel
theorem d_Su_counted_45 : decode b_Su_counted 45 = .ok (.iconst 5, 1) := by decide +kernel
theorem d_Su_counted_46 : decode b_Su_counted 46 = .ok (.if_icmp .eq 7, 3) := by decide +kernel
theorem d_Su_counted_49 : decode b_Su_counted 49 = .ok (.iconst 1, 1) := by decide +kernel
theorem d_Su_counted_50 : decode b_Su_counted 50 = .ok (.goto 4, 3) := by decide +kernel
theorem d_Su_counted_53 : decode b_Su_counted 53 = .ok (.iconst 0, 1) := by decide +kernel
theorem d_Su_counted_54 : decode b_Su_counted 54 = .ok (.invokestatic 105, 3) := by decide +kernel
theorem d_Su_counted_57 : decode b_Su_counted 57 = .ok (.ifCond .eq 6, 3) := by decide +kernel
theorem d_Su_counted_60 : decode b_Su_counted 60 = .ok (.iinc 2 1, 3) := by decide +kernel
theorem d_Su_counted_63 : decode b_Su_counted 63 = .ok (.iinc 5 1, 3) := by decide +kernel
theorem d_Su_counted_66 : decode b_Su_counted 66 = .ok (.goto (-44), 3) := by decide +kernel
theorem d_Su_counted_69 : decode b_Su_counted 69 = .ok (.iinc 3 1, 3) := by decide +kernel
theorem d_Su_counted_72 : decode b_Su_counted 72 = .ok (.goto (-68), 3) := by decide +kernel
theorem d_Su_counted_75 : decode b_Su_counted 75 = .ok (.iload_n 2, 1) := by decide +kernel
theorem d_Su_counted_76 : decode b_Su_counted 76 = .ok (.i2d, 1) := by decide +kernel
theorem d_Su_counted_77 : decode b_Su_counted 77 = .ok (.invokestatic 38, 3) := by decide +kernel
theorem d_Su_counted_80 : decode b_Su_counted 80 = .ok (.areturn, 1) := by decide +kernel
theorem p_Su_counted_b63 (d : Nat) (b4 : Int32 → Option Nat → Int32 → Int32 → gk_H → Option ((Option Nat) × gk_H)) (q4 : ∀ (v0 : Int32) (v1 : Option Nat) (v2 : Int32) (v3 : Int32) (h : gk_H), gk_P gw_R (d + 7) y_Su_counted b_Su_counted 6 (some (.object "ValueAlgebra$Value")) [] (b4 v0 v1 v2 v3 h) 4 [(0, .int v0), (1, va_rf v1), (2, .int v2), (3, .int v3)] [] h) (b22 : Int32 → Option Nat → Int32 → Int32 → Option Nat → Int32 → gk_H → Option ((Option Nat) × gk_H)) (q22 : ∀ (v0 : Int32) (v1 : Option Nat) (v2 : Int32) (v3 : Int32) (v4 : Option Nat) (v5 : Int32) (h : gk_H), gk_P gw_R (d + 7) y_Su_counted b_Su_counted 6 (some (.object "ValueAlgebra$Value")) [] (b22 v0 v1 v2 v3 v4 v5 h) 22 [(0, .int v0), (1, va_rf v1), (2, .int v2), (3, .int v3), (4, va_rf v4), (5, .int v5)] [] h) (v0 : Int32) (v1 : Option Nat) (v2 : Int32) (v3 : Int32) (v4 : Option Nat) (v5 : Int32) (h : gk_H) : gk_P gw_R (d + 7) y_Su_counted b_Su_counted 6 (some (.object "ValueAlgebra$Value")) [] (f_Su_counted_b63 b4 b22 v0 v1 v2 v3 v4 v5 h) 63 [(0, .int v0), (1, va_rf v1), (2, .int v2), (3, .int v3), (4, va_rf v4), (5, .int v5)] [] h := by
  unfold f_Su_counted_b63
  refine gk_iincN (pc := 63) 5 (1 : Int32) (L' := fun x1 => [(5, .int x1), (0, .int v0), (1, va_rf v1), (2, .int v2), (3, .int v3), (4, va_rf v4)]) d_Su_counted_63 rfl rfl (Nat.le_of_ble_eq_true rfl) (fun _ => by simp [gk_s1, gk_cat_rf, gk_catI, gk_catJ, gk_catD] <;> decide) fun x1 => ?_
  refine gk_goto (pc := 66) 22 d_Su_counted_66 rfl ?_
  refine gk_weak [1, 2, 3, 4, 5, 0] (L' := [(0, .int v0), (1, va_rf v1), (2, .int v2), (3, .int v3), (4, va_rf v4), (5, .int x1)]) rfl ?_
  exact q22 v0 v1 v2 v3 v4 x1 h
theorem p_Su_counted_b54 (d : Nat) (b4 : Int32 → Option Nat → Int32 → Int32 → gk_H → Option ((Option Nat) × gk_H)) (q4 : ∀ (v0 : Int32) (v1 : Option Nat) (v2 : Int32) (v3 : Int32) (h : gk_H), gk_P gw_R (d + 7) y_Su_counted b_Su_counted 6 (some (.object "ValueAlgebra$Value")) [] (b4 v0 v1 v2 v3 h) 4 [(0, .int v0), (1, va_rf v1), (2, .int v2), (3, .int v3)] [] h) (b22 : Int32 → Option Nat → Int32 → Int32 → Option Nat → Int32 → gk_H → Option ((Option Nat) × gk_H)) (q22 : ∀ (v0 : Int32) (v1 : Option Nat) (v2 : Int32) (v3 : Int32) (v4 : Option Nat) (v5 : Int32) (h : gk_H), gk_P gw_R (d + 7) y_Su_counted b_Su_counted 6 (some (.object "ValueAlgebra$Value")) [] (b22 v0 v1 v2 v3 v4 v5 h) 22 [(0, .int v0), (1, va_rf v1), (2, .int v2), (3, .int v3), (4, va_rf v4), (5, .int v5)] [] h) (v0 : Int32) (v1 : Option Nat) (v2 : Int32) (v3 : Int32) (v4 : Option Nat) (v5 : Int32) (s0 : Int32) (s1 : Option Nat) (s2 : Int32) (h : gk_H) : gk_P gw_R (d + 7) y_Su_counted b_Su_counted 6 (some (.object "ValueAlgebra$Value")) [] (f_Su_counted_b54 b4 b22 v0 v1 v2 v3 v4 v5 s0 s1 s2 h) 54 [(0, .int v0), (1, va_rf v1), (2, .int v2), (3, .int v3), (4, va_rf v4), (5, .int v5)] [.int s2, va_rf s1, .int s0] h := by
  unfold f_Su_counted_b54
  refine gk_callS (pc := 54) (d := (d + 6)) (w' := gv_I) (as := [.int s0, va_rf s1, .int s2]) (n := 3) d_Su_counted_54 rfl rfl (Nat.le_of_ble_eq_true rfl) tw_1039 tw_1040 tw_119 cw_Su_counts hy_Su_counts (Nat.le_of_ble_eq_true rfl) (p_Su_counts d s0 s1 s2 h) fun x1 h1 => ?_
  refine gk_if_eq (pc := 57) 63 d_Su_counted_57 rfl (fun _ => ?_) (fun _ => ?_)
  · exact p_Su_counted_b63 d b4 q4 b22 q22 v0 v1 v2 v3 v4 v5 h1
  · refine gk_iincN (pc := 60) 2 (1 : Int32) (L' := fun x2 => [(2, .int x2), (0, .int v0), (1, va_rf v1), (3, .int v3), (4, va_rf v4), (5, .int v5)]) d_Su_counted_60 rfl rfl (Nat.le_of_ble_eq_true rfl) (fun _ => by simp [gk_s1, gk_cat_rf, gk_catI, gk_catJ, gk_catD] <;> decide) fun x2 => ?_
    refine gk_weak [1, 2, 0, 3, 4, 5] (L' := [(0, .int v0), (1, va_rf v1), (2, .int x2), (3, .int v3), (4, va_rf v4), (5, .int v5)]) rfl ?_
    exact p_Su_counted_b63 d b4 q4 b22 q22 v0 v1 x2 v3 v4 v5 h1
theorem p_Su_counted_b22 (d : Nat) (b4 : Int32 → Option Nat → Int32 → Int32 → gk_H → Option ((Option Nat) × gk_H)) (q4 : ∀ (v0 : Int32) (v1 : Option Nat) (v2 : Int32) (v3 : Int32) (h : gk_H), gk_P gw_R (d + 7) y_Su_counted b_Su_counted 6 (some (.object "ValueAlgebra$Value")) [] (b4 v0 v1 v2 v3 h) 4 [(0, .int v0), (1, va_rf v1), (2, .int v2), (3, .int v3)] [] h) : ∀ (fu : Nat) (v0 : Int32) (v1 : Option Nat) (v2 : Int32) (v3 : Int32) (v4 : Option Nat) (v5 : Int32) (h : gk_H), gk_P gw_R (d + 7) y_Su_counted b_Su_counted 6 (some (.object "ValueAlgebra$Value")) [] (f_Su_counted_b22 b4 fu v0 v1 v2 v3 v4 v5 h) 22 [(0, .int v0), (1, va_rf v1), (2, .int v2), (3, .int v3), (4, va_rf v4), (5, .int v5)] [] h := by
  intro fu
  induction fu with
  | zero => intros; exact gk_none
  | succ fu q22 =>
    intro v0 v1 v2 v3 v4 v5 h
    rw [f_Su_counted_b22]
    refine gk_iload (pc := 22) 5 d_Su_counted_22 rfl ?_
    refine gk_aload (pc := 24) 4 d_Su_counted_24 rfl ?_
    refine gk_callV (pc := 26) (d := (d + 6)) (w' := gv_I) (as := []) (n := 0) 2 d_Su_counted_26 rfl rfl rfl rfl (Nat.le_of_ble_eq_true rfl) tw_1037 tw_776 tw_777 tw_97 cw_Va_howManyCells hy_Va_howManyCells (Nat.le_of_ble_eq_true rfl) (p_Va_howManyCells (d + 6) v4 h) fun x1 h1 => ?_
    refine gk_icmp_ge (pc := 29) 69 d_Su_counted_29 rfl (fun _ => ?_) (fun _ => ?_)
    · refine gk_iincN (pc := 69) 3 (1 : Int32) (L' := fun x2 => [(3, .int x2), (0, .int v0), (1, va_rf v1), (2, .int v2), (4, va_rf v4), (5, .int v5)]) d_Su_counted_69 rfl rfl (Nat.le_of_ble_eq_true rfl) (fun _ => rfl) fun x2 => ?_
      refine gk_goto (pc := 72) 4 d_Su_counted_72 rfl ?_
      refine gk_weak [1, 2, 3, 0] (L' := [(0, .int v0), (1, va_rf v1), (2, .int v2), (3, .int x2)]) rfl ?_
      exact q4 v0 v1 v2 x2 h1
    · refine gk_iload_n (pc := 32) 0 d_Su_counted_32 rfl ?_
      refine gk_aload (pc := 33) 4 d_Su_counted_33 rfl ?_
      refine gk_iload (pc := 35) 5 d_Su_counted_35 rfl ?_
      refine gk_callV (pc := 37) (d := (d + 6)) (w' := gv_R) (as := [.int v5]) (n := 1) 2 d_Su_counted_37 rfl rfl rfl rfl (Nat.le_of_ble_eq_true rfl) tw_1038 tw_780 tw_781 tw_97 cw_Va_cellAt hy_Va_cellAt (Nat.le_of_ble_eq_true rfl) (p_Va_cellAt (d + 6) v4 v5 h1) fun x3 h2 => ?_
      refine gk_aload (pc := 40) 4 d_Su_counted_40 rfl ?_
      refine gk_getI (pc := 42) 2 0 d_Su_counted_42 rfl (Nat.le_of_ble_eq_true rfl) tw_192 fun x4 => ?_
      refine gk_iconst (pc := 45) (5 : Int32) d_Su_counted_45 rfl ?_
      refine gk_icmp_eq (pc := 46) 53 d_Su_counted_46 rfl (fun _ => ?_) (fun _ => ?_)
      · refine gk_iconst (pc := 53) (0 : Int32) d_Su_counted_53 rfl ?_
        exact p_Su_counted_b54 d b4 q4 (f_Su_counted_b22 b4 fu) q22 v0 v1 v2 v3 v4 v5 v0 x3 (0 : Int32) h2
      · refine gk_iconst (pc := 49) (1 : Int32) d_Su_counted_49 rfl ?_
        refine gk_goto (pc := 50) 54 d_Su_counted_50 rfl ?_
        exact p_Su_counted_b54 d b4 q4 (f_Su_counted_b22 b4 fu) q22 v0 v1 v2 v3 v4 v5 v0 x3 (1 : Int32) h2
theorem p_Su_counted_b4 (d : Nat)  : ∀ (fu : Nat) (v0 : Int32) (v1 : Option Nat) (v2 : Int32) (v3 : Int32) (h : gk_H), gk_P gw_R (d + 7) y_Su_counted b_Su_counted 6 (some (.object "ValueAlgebra$Value")) [] (f_Su_counted_b4  fu v0 v1 v2 v3 h) 4 [(0, .int v0), (1, va_rf v1), (2, .int v2), (3, .int v3)] [] h := by
  intro fu
  induction fu with
  | zero => intros; exact gk_none
  | succ fu q4 =>
    intro v0 v1 v2 v3 h
    rw [f_Su_counted_b4]
    refine gk_iload_n (pc := 4) 3 d_Su_counted_4 rfl ?_
    refine gk_aload_n (pc := 5) 1 d_Su_counted_5 rfl ?_
    refine gk_callV (pc := 6) (d := (d + 6)) (w' := gv_I) (as := []) (n := 0) 4 d_Su_counted_6 rfl rfl rfl rfl (Nat.le_of_ble_eq_true rfl) tw_1029 tw_1030 tw_1031 tw_96 cw_Ar_howMany hy_Ar_howMany (Nat.le_of_ble_eq_true rfl) (p_Ar_howMany (d + 6) v1 h) fun x1 h1 => ?_
    refine gk_icmp_ge (pc := 9) 75 d_Su_counted_9 rfl (fun _ => ?_) (fun _ => ?_)
    · refine gk_iload_n (pc := 75) 2 d_Su_counted_75 rfl ?_
      refine gk_i2d (pc := 76) d_Su_counted_76 ?_
      refine gk_callS (pc := 77) (d := (d + 6)) (w' := gv_R) (as := [.double (FP.i2d v2)]) (n := 1) d_Su_counted_77 rfl rfl (Nat.le_of_ble_eq_true rfl) tw_1047 tw_317 tw_97 cw_Va_ofNumber hy_Va_ofNumber (Nat.le_of_ble_eq_true rfl) (p_Va_ofNumber (d + 4) (FP.i2d v2) h1) fun x2 h2 => ?_
      exact gk_aret (pc := 80) rfl d_Su_counted_80 rfl (Or.inl ⟨_, rfl⟩)
    · refine gk_aload_n (pc := 12) 1 d_Su_counted_12 rfl ?_
      refine gk_iload_n (pc := 13) 3 d_Su_counted_13 rfl ?_
      refine gk_callV (pc := 14) (d := (d + 6)) (w' := gv_R) (as := [.int v3]) (n := 1) 4 d_Su_counted_14 rfl rfl rfl rfl (Nat.le_of_ble_eq_true rfl) tw_1033 tw_1034 tw_1035 tw_96 cw_Ar_raw hy_Ar_raw (Nat.le_of_ble_eq_true rfl) (p_Ar_raw (d + 6) v1 v3 h1) fun x3 h3 => ?_
      refine gk_astore (pc := 17) (L' := [(4, va_rf x3), (0, .int v0), (1, va_rf v1), (2, .int v2), (3, .int v3)]) d_Su_counted_17 (Nat.le_of_ble_eq_true rfl) rfl ?_
      refine gk_iconst (pc := 19) (0 : Int32) d_Su_counted_19 rfl ?_
      refine gk_istore (pc := 20) (L' := [(5, .int (0 : Int32)), (4, va_rf x3), (0, .int v0), (1, va_rf v1), (2, .int v2), (3, .int v3)]) d_Su_counted_20 (Nat.le_of_ble_eq_true rfl) (by simp [gk_s1, gk_s2, gk_cat_rf, gk_catI, gk_catJ, gk_catD] <;> decide) ?_
      refine gk_weak [2, 3, 4, 5, 1, 0] (L' := [(0, .int v0), (1, va_rf v1), (2, .int v2), (3, .int v3), (4, va_rf x3), (5, .int (0 : Int32))]) rfl ?_
      exact p_Su_counted_b22 d (f_Su_counted_b4 fu) q4 gk_F v0 v1 v2 v3 x3 (0 : Int32) h3
theorem w_Su_counted (d : Nat) (a0 : Int32) (a1 : Option Nat) (h : gk_H) : gk_P gw_R (d + 7) y_Su_counted b_Su_counted 6 (some (.object "ValueAlgebra$Value")) [] (f_Su_counted a0 a1 h) 0 [(0, .int a0), (1, va_rf a1)] [] h := by
  unfold f_Su_counted
  refine gk_iconst (pc := 0) (0 : Int32) d_Su_counted_0 rfl ?_
  refine gk_istore_n (pc := 1) (L' := [(2, .int (0 : Int32)), (0, .int a0), (1, va_rf a1)]) d_Su_counted_1 (Nat.le_of_ble_eq_true rfl) (by simp [gk_s1, gk_s2, gk_cat_rf, gk_catI, gk_catJ, gk_catD] <;> decide) ?_
  refine gk_iconst (pc := 2) (0 : Int32) d_Su_counted_2 rfl ?_
  refine gk_istore_n (pc := 3) (L' := [(3, .int (0 : Int32)), (2, .int (0 : Int32)), (0, .int a0), (1, va_rf a1)]) d_Su_counted_3 (Nat.le_of_ble_eq_true rfl) rfl ?_
  refine gk_weak [2, 3, 1, 0] (L' := [(0, .int a0), (1, va_rf a1), (2, .int (0 : Int32)), (3, .int (0 : Int32))]) rfl ?_
  exact p_Su_counted_b4 d gk_F a0 a1 (0 : Int32) (0 : Int32) h
theorem p_Su_counted (d : Nat) (a0 : Int32) (a1 : Option Nat) (h : gk_H) : ∀ r h1, f_Su_counted a0 a1 h = some (r, h1) → gk_M (d + 7) y_Su_counted b_Su_counted 6 (some (.object "ValueAlgebra$Value")) [.int a0, va_rf a1] h (.inl (gv_R r)) h1 :=
  fun r h1 e => gk_M_of2 (by decide +kernel) (by simp [lv_args, gk_cat_rf, gk_catI, gk_catJ, gk_catD, gv_V, gv_I, gv_J, gv_D, gv_R]) (by simp [lg_sl, gk_cat_rf, gk_catI, gk_catJ, gk_catD, gv_V, gv_I, gv_J, gv_D, gv_R]) (w_Su_counted d a0 a1 h r h1 e)
theorem d_Ar_gather_0 : decode b_Ar_gather 0 = .ok (.iconst 0, 1) := by decide +kernel
theorem d_Ar_gather_1 : decode b_Ar_gather 1 = .ok (.istore_n 1, 1) := by decide +kernel
theorem d_Ar_gather_2 : decode b_Ar_gather 2 = .ok (.iload_n 1, 1) := by decide +kernel
theorem d_Ar_gather_3 : decode b_Ar_gather 3 = .ok (.aload_n 0, 1) := by decide +kernel
theorem d_Ar_gather_4 : decode b_Ar_gather 4 = .ok (.getfield 46, 3) := by decide +kernel
theorem d_Ar_gather_7 : decode b_Ar_gather 7 = .ok (.if_icmp .ge 38, 3) := by decide +kernel
theorem d_Ar_gather_10 : decode b_Ar_gather 10 = .ok (.aload_n 0, 1) := by decide +kernel
theorem d_Ar_gather_11 : decode b_Ar_gather 11 = .ok (.iload_n 1, 1) := by decide +kernel
theorem d_Ar_gather_12 : decode b_Ar_gather 12 = .ok (.invokevirtual 131, 3) := by decide +kernel
theorem d_Ar_gather_15 : decode b_Ar_gather 15 = .ok (.getfield 66, 3) := by decide +kernel
theorem d_Ar_gather_18 : decode b_Ar_gather 18 = .ok (.iconst 5, 1) := by decide +kernel
theorem d_Ar_gather_19 : decode b_Ar_gather 19 = .ok (.if_icmp .ne 11, 3) := by decide +kernel
theorem d_Ar_gather_22 : decode b_Ar_gather 22 = .ok (.aload_n 0, 1) := by decide +kernel
theorem d_Ar_gather_23 : decode b_Ar_gather 23 = .ok (.iload_n 1, 1) := by decide +kernel
theorem d_Ar_gather_24 : decode b_Ar_gather 24 = .ok (.invokevirtual 134, 3) := by decide +kernel
theorem d_Ar_gather_27 : decode b_Ar_gather 27 = .ok (.goto 12, 3) := by decide +kernel
theorem d_Ar_gather_30 : decode b_Ar_gather 30 = .ok (.aload_n 0, 1) := by decide +kernel
theorem d_Ar_gather_31 : decode b_Ar_gather 31 = .ok (.aload_n 0, 1) := by decide +kernel
theorem d_Ar_gather_32 : decode b_Ar_gather 32 = .ok (.iload_n 1, 1) := by decide +kernel
theorem d_Ar_gather_33 : decode b_Ar_gather 33 = .ok (.invokevirtual 97, 3) := by decide +kernel
theorem d_Ar_gather_36 : decode b_Ar_gather 36 = .ok (.invokevirtual 137, 3) := by decide +kernel
theorem d_Ar_gather_39 : decode b_Ar_gather 39 = .ok (.iinc 1 1, 3) := by decide +kernel
theorem d_Ar_gather_42 : decode b_Ar_gather 42 = .ok (.goto (-40), 3) := by decide +kernel
theorem d_Ar_gather_45 : decode b_Ar_gather 45 = .ok (.return_, 1) := by decide +kernel
theorem p_Ar_gather_b39 (d : Nat) (b2 : Option Nat → Int32 → gk_H → Option (Unit × gk_H)) (q2 : ∀ (v0 : Option Nat) (v1 : Int32) (h : gk_H), gk_P gw_V (d + 7) y_Ar_gather b_Ar_gather 2 none [] (b2 v0 v1 h) 2 [(0, va_rf v0), (1, .int v1)] [] h) (v0 : Option Nat) (v1 : Int32) (h : gk_H) : gk_P gw_V (d + 7) y_Ar_gather b_Ar_gather 2 none [] (f_Ar_gather_b39 b2 v0 v1 h) 39 [(0, va_rf v0), (1, .int v1)] [] h := by
  unfold f_Ar_gather_b39
  refine gk_iincN (pc := 39) 1 (1 : Int32) (L' := fun x1 => [(1, .int x1), (0, va_rf v0)]) d_Ar_gather_39 rfl rfl (Nat.le_of_ble_eq_true rfl) (fun _ => by simp [gk_s1, gk_cat_rf, gk_catI, gk_catJ, gk_catD] <;> decide) fun x1 => ?_
  refine gk_goto (pc := 42) 2 d_Ar_gather_42 rfl ?_
  refine gk_weak [1, 0] (L' := [(0, va_rf v0), (1, .int x1)]) rfl ?_
  exact q2 v0 x1 h
theorem p_Ar_gather_b2 (d : Nat)  : ∀ (fu : Nat) (v0 : Option Nat) (v1 : Int32) (h : gk_H), gk_P gw_V (d + 7) y_Ar_gather b_Ar_gather 2 none [] (f_Ar_gather_b2  fu v0 v1 h) 2 [(0, va_rf v0), (1, .int v1)] [] h := by
  intro fu
  induction fu with
  | zero => intros; exact gk_none
  | succ fu q2 =>
    intro v0 v1 h
    rw [f_Ar_gather_b2]
    refine gk_iload_n (pc := 2) 1 d_Ar_gather_2 rfl ?_
    refine gk_aload_n (pc := 3) 0 d_Ar_gather_3 rfl ?_
    refine gk_getI (pc := 4) 4 2 d_Ar_gather_4 rfl (Nat.le_of_ble_eq_true rfl) tw_262 fun x1 => ?_
    refine gk_icmp_ge (pc := 7) 45 d_Ar_gather_7 rfl (fun _ => ?_) (fun _ => ?_)
    · exact gk_vret (pc := 45) rfl d_Ar_gather_45 rfl
    · refine gk_aload_n (pc := 10) 0 d_Ar_gather_10 rfl ?_
      refine gk_iload_n (pc := 11) 1 d_Ar_gather_11 rfl ?_
      refine gk_callV (pc := 12) (d := (d + 6)) (w' := gv_R) (as := [.int v1]) (n := 1) 4 d_Ar_gather_12 rfl rfl rfl rfl (Nat.le_of_ble_eq_true rfl) tw_1055 tw_1034 tw_1035 tw_96 cw_Ar_raw hy_Ar_raw (Nat.le_of_ble_eq_true rfl) (p_Ar_raw (d + 6) v0 v1 h) fun x2 h1 => ?_
      refine gk_getI (pc := 15) 2 0 d_Ar_gather_15 rfl (Nat.le_of_ble_eq_true rfl) tw_191 fun x3 => ?_
      refine gk_iconst (pc := 18) (5 : Int32) d_Ar_gather_18 rfl ?_
      refine gk_icmp_ne (pc := 19) 30 d_Ar_gather_19 rfl (fun _ => ?_) (fun _ => ?_)
      · refine gk_aload_n (pc := 22) 0 d_Ar_gather_22 rfl ?_
        refine gk_iload_n (pc := 23) 1 d_Ar_gather_23 rfl ?_
        refine gk_callV (pc := 24) (d := (d + 6)) (w' := gv_V) (as := [.int v1]) (n := 1) 4 d_Ar_gather_24 rfl rfl rfl rfl (Nat.le_of_ble_eq_true rfl) tw_1203 tw_1052 tw_1053 tw_96 cw_Ar_gatherCells hy_Ar_gatherCells (Nat.le_of_ble_eq_true rfl) (p_Ar_gatherCells (d + 4) v0 v1 h1) fun _ h2 => ?_
        refine gk_goto (pc := 27) 39 d_Ar_gather_27 rfl ?_
        exact p_Ar_gather_b39 d (f_Ar_gather_b2 fu) q2 v0 v1 h2
      · refine gk_aload_n (pc := 30) 0 d_Ar_gather_30 rfl ?_
        refine gk_aload_n (pc := 31) 0 d_Ar_gather_31 rfl ?_
        refine gk_iload_n (pc := 32) 1 d_Ar_gather_32 rfl ?_
        refine gk_callV (pc := 33) (d := (d + 6)) (w' := gv_D) (as := [.int v1]) (n := 1) 4 d_Ar_gather_33 rfl rfl rfl rfl (by simp [gk_cat_rf, gk_catI, gk_catJ, gk_catD, gv_V, gv_I, gv_J, gv_D, gv_R]) tw_1068 tw_788 tw_789 tw_96 cw_Ar_amount hy_Ar_amount (Nat.le_of_ble_eq_true rfl) (p_Ar_amount d v0 v1 h1) fun x4 h3 => ?_
        refine gk_callV (pc := 36) (d := (d + 6)) (w' := gv_V) (as := [.double x4]) (n := 1) 4 d_Ar_gather_36 rfl rfl rfl rfl (Nat.le_of_ble_eq_true rfl) tw_1060 tw_1062 tw_7 tw_96 cw_Ar_addToRow hy_Ar_addToRow (Nat.le_of_ble_eq_true rfl) (p_Ar_addToRow (d + 6) v0 x4 h3) fun _ h4 => ?_
        exact p_Ar_gather_b39 d (f_Ar_gather_b2 fu) q2 v0 v1 h4
theorem w_Ar_gather (d : Nat) (a0 : Option Nat) (h : gk_H) : gk_P gw_V (d + 7) y_Ar_gather b_Ar_gather 2 none [] (f_Ar_gather a0 h) 0 [(0, va_rf a0)] [] h := by
  unfold f_Ar_gather
  refine gk_iconst (pc := 0) (0 : Int32) d_Ar_gather_0 rfl ?_
  refine gk_istore_n (pc := 1) (L' := [(1, .int (0 : Int32)), (0, va_rf a0)]) d_Ar_gather_1 (Nat.le_of_ble_eq_true rfl) (by simp [gk_s1, gk_s2, gk_cat_rf, gk_catI, gk_catJ, gk_catD] <;> decide) ?_
  refine gk_weak [1, 0] (L' := [(0, va_rf a0), (1, .int (0 : Int32))]) rfl ?_
  exact p_Ar_gather_b2 d gk_F a0 (0 : Int32) h
theorem p_Ar_gather (d : Nat) (a0 : Option Nat) (h : gk_H) : ∀ r h1, f_Ar_gather a0 h = some (r, h1) → gk_M (d + 7) y_Ar_gather b_Ar_gather 2 none [va_rf a0] h (.inl (gv_V r)) h1 :=
  fun r h1 e => gk_M_of2 (by decide +kernel) (by simp [lv_args, gk_cat_rf, gk_catI, gk_catJ, gk_catD, gv_V, gv_I, gv_J, gv_D, gv_R]) (by simp [lg_sl, gk_cat_rf, gk_catI, gk_catJ, gk_catD, gv_V, gv_I, gv_J, gv_D, gv_R]) (w_Ar_gather d a0 h r h1 e)
theorem d_Su_sum_0 : decode b_Su_sum 0 = .ok (.dconst 0, 1) := by decide +kernel
theorem d_Su_sum_1 : decode b_Su_sum 1 = .ok (.dstore_n 1, 1) := by decide +kernel
theorem d_Su_sum_2 : decode b_Su_sum 2 = .ok (.iconst 0, 1) := by decide +kernel
theorem d_Su_sum_3 : decode b_Su_sum 3 = .ok (.istore_n 3, 1) := by decide +kernel
theorem d_Su_sum_4 : decode b_Su_sum 4 = .ok (.iload_n 3, 1) := by decide +kernel
theorem d_Su_sum_5 : decode b_Su_sum 5 = .ok (.aload_n 0, 1) := by decide +kernel
theorem d_Su_sum_6 : decode b_Su_sum 6 = .ok (.invokevirtual 61, 3) := by decide +kernel
theorem d_Su_sum_9 : decode b_Su_sum 9 = .ok (.if_icmp .ge 24, 3) := by decide +kernel
theorem d_Su_sum_12 : decode b_Su_sum 12 = .ok (.dload_n 1, 1) := by decide +kernel
theorem d_Su_sum_13 : decode b_Su_sum 13 = .ok (.invokestatic 73, 3) := by decide +kernel
theorem d_Su_sum_16 : decode b_Su_sum 16 = .ok (.ifCond .eq 17, 3) := by decide +kernel
theorem d_Su_sum_19 : decode b_Su_sum 19 = .ok (.dload_n 1, 1) := by decide +kernel
theorem d_Su_sum_20 : decode b_Su_sum 20 = .ok (.aload_n 0, 1) := by decide +kernel
theorem d_Su_sum_21 : decode b_Su_sum 21 = .ok (.iload_n 3, 1) := by decide +kernel
theorem d_Su_sum_22 : decode b_Su_sum 22 = .ok (.invokevirtual 77, 3) := by decide +kernel
theorem d_Su_sum_25 : decode b_Su_sum 25 = .ok (.dadd, 1) := by decide +kernel
theorem d_Su_sum_26 : decode b_Su_sum 26 = .ok (.dstore_n 1, 1) := by decide +kernel
theorem d_Su_sum_27 : decode b_Su_sum 27 = .ok (.iinc 3 1, 3) := by decide +kernel
theorem d_Su_sum_30 : decode b_Su_sum 30 = .ok (.goto (-26), 3) := by decide +kernel
theorem d_Su_sum_33 : decode b_Su_sum 33 = .ok (.dload_n 1, 1) := by decide +kernel
theorem d_Su_sum_34 : decode b_Su_sum 34 = .ok (.dreturn, 1) := by decide +kernel
theorem p_Su_sum_b33 (d : Nat)  (v1 : UInt64) (h : gk_H) : gk_P gw_D (d + 1) y_Su_sum b_Su_sum 4 (some .double) [] (f_Su_sum_b33  v1 h) 33 [(1, .double v1)] [] h := by
  unfold f_Su_sum_b33
  refine gk_dload_n (pc := 33) 0 d_Su_sum_33 rfl ?_
  exact gk_dret (pc := 34) rfl d_Su_sum_34 rfl
theorem p_Su_sum_b4 (d : Nat)  : ∀ (fu : Nat) (v0 : Option Nat) (v1 : UInt64) (v3 : Int32) (h : gk_H), gk_P gw_D (d + 1) y_Su_sum b_Su_sum 4 (some .double) [] (f_Su_sum_b4  fu v0 v1 v3 h) 4 [(0, va_rf v0), (1, .double v1), (3, .int v3)] [] h := by
  intro fu
  induction fu with
  | zero => intros; exact gk_none
  | succ fu q4 =>
    intro v0 v1 v3 h
    rw [f_Su_sum_b4]
    refine gk_iload_n (pc := 4) 2 d_Su_sum_4 rfl ?_
    refine gk_aload_n (pc := 5) 0 d_Su_sum_5 rfl ?_
    refine gk_callV (pc := 6) (d := d) (w' := gv_I) (as := []) (n := 0) 4 d_Su_sum_6 rfl rfl rfl rfl (Nat.le_of_ble_eq_true rfl) tw_1070 tw_1071 tw_1072 tw_96 cw_Ar_inRow hy_Ar_inRow (Nat.le_of_ble_eq_true rfl) (p_Ar_inRow d v0 h) fun x1 h1 => ?_
    refine gk_icmp_ge (pc := 9) 33 d_Su_sum_9 rfl (fun _ => ?_) (fun _ => ?_)
    · refine gk_weak [1] (L' := [(1, .double v1)]) rfl ?_
      exact p_Su_sum_b33 d v1 h1
    · refine gk_dload_n (pc := 12) 1 d_Su_sum_12 rfl ?_
      refine gk_callS (pc := 13) (d := d) (w' := gv_I) (as := [.double v1]) (n := 1) d_Su_sum_13 rfl rfl (Nat.le_of_ble_eq_true rfl) tw_1095 tw_320 tw_97 cw_Va_isFinite hy_Va_isFinite (Nat.le_of_ble_eq_true rfl) (p_Va_isFinite d v1 h1) fun x2 h2 => ?_
      refine gk_if_eq (pc := 16) 33 d_Su_sum_16 rfl (fun _ => ?_) (fun _ => ?_)
      · refine gk_weak [1] (L' := [(1, .double v1)]) rfl ?_
        exact p_Su_sum_b33 d v1 h2
      · refine gk_dload_n (pc := 19) 1 d_Su_sum_19 rfl ?_
        refine gk_aload_n (pc := 20) 0 d_Su_sum_20 rfl ?_
        refine gk_iload_n (pc := 21) 2 d_Su_sum_21 rfl ?_
        refine gk_callV (pc := 22) (d := d) (w' := gv_D) (as := [.int v3]) (n := 1) 4 d_Su_sum_22 rfl rfl rfl rfl (Nat.le_of_ble_eq_true rfl) tw_1079 tw_1080 tw_1081 tw_96 cw_Ar_ofRow hy_Ar_ofRow (Nat.le_of_ble_eq_true rfl) (p_Ar_ofRow d v0 v3 h2) fun x3 h3 => ?_
        refine gk_daddN (pc := 25) d_Su_sum_25 fun x4 => ?_
        refine gk_dstore_n (pc := 26) (L' := [(1, .double x4), (0, va_rf v0), (3, .int v3)]) d_Su_sum_26 (Nat.le_of_ble_eq_true rfl) (by simp [gk_s1, gk_s2, gk_cat_rf, gk_catI, gk_catJ, gk_catD] <;> decide) ?_
        refine gk_iincN (pc := 27) 2 (1 : Int32) (L' := fun x5 => [(3, .int x5), (1, .double x4), (0, va_rf v0)]) d_Su_sum_27 rfl rfl (Nat.le_of_ble_eq_true rfl) (fun _ => rfl) fun x5 => ?_
        refine gk_goto (pc := 30) 4 d_Su_sum_30 rfl ?_
        refine gk_weak [2, 1, 0] (L' := [(0, va_rf v0), (1, .double x4), (3, .int x5)]) rfl ?_
        exact q4 v0 x4 x5 h3
theorem w_Su_sum (d : Nat) (a0 : Option Nat) (h : gk_H) : gk_P gw_D (d + 1) y_Su_sum b_Su_sum 4 (some .double) [] (f_Su_sum a0 h) 0 [(0, va_rf a0)] [] h := by
  unfold f_Su_sum
  refine gk_dconst0 (pc := 0) d_Su_sum_0 ?_
  refine gk_dstore_n (pc := 1) (L' := [(1, .double (0x0000000000000000)), (0, va_rf a0)]) d_Su_sum_1 (Nat.le_of_ble_eq_true rfl) (by simp [gk_s1, gk_s2, gk_cat_rf, gk_catI, gk_catJ, gk_catD] <;> decide) ?_
  refine gk_iconst (pc := 2) (0 : Int32) d_Su_sum_2 rfl ?_
  refine gk_istore_n (pc := 3) (L' := [(3, .int (0 : Int32)), (1, .double (0x0000000000000000)), (0, va_rf a0)]) d_Su_sum_3 (Nat.le_of_ble_eq_true rfl) rfl ?_
  refine gk_weak [2, 1, 0] (L' := [(0, va_rf a0), (1, .double (0x0000000000000000)), (3, .int (0 : Int32))]) rfl ?_
  exact p_Su_sum_b4 d gk_F a0 (0x0000000000000000) (0 : Int32) h
theorem p_Su_sum (d : Nat) (a0 : Option Nat) (h : gk_H) : ∀ r h1, f_Su_sum a0 h = some (r, h1) → gk_M (d + 1) y_Su_sum b_Su_sum 4 (some .double) [va_rf a0] h (.inl (gv_D r)) h1 :=
  fun r h1 e => gk_M_of2 (by decide +kernel) (by simp [lv_args, gk_cat_rf, gk_catI, gk_catJ, gk_catD, gv_V, gv_I, gv_J, gv_D, gv_R]) (by simp [lg_sl, gk_cat_rf, gk_catI, gk_catJ, gk_catD, gv_V, gv_I, gv_J, gv_D, gv_R]) (w_Su_sum d a0 h r h1 e)
theorem d_Su_average_0 : decode b_Su_average 0 = .ok (.aload_n 0, 1) := by decide +kernel
theorem d_Su_average_1 : decode b_Su_average 1 = .ok (.invokevirtual 61, 3) := by decide +kernel
theorem d_Su_average_4 : decode b_Su_average 4 = .ok (.ifCond .ne 8, 3) := by decide +kernel
theorem d_Su_average_7 : decode b_Su_average 7 = .ok (.iconst 2, 1) := by decide +kernel
theorem d_Su_average_8 : decode b_Su_average 8 = .ok (.invokestatic 69, 3) := by decide +kernel
theorem d_Su_average_11 : decode b_Su_average 11 = .ok (.areturn, 1) := by decide +kernel
theorem d_Su_average_12 : decode b_Su_average 12 = .ok (.aload_n 0, 1) := by decide +kernel
theorem d_Su_average_13 : decode b_Su_average 13 = .ok (.invokestatic 34, 3) := by decide +kernel
theorem d_Su_average_16 : decode b_Su_average 16 = .ok (.aload_n 0, 1) := by decide +kernel
theorem d_Su_average_17 : decode b_Su_average 17 = .ok (.invokevirtual 61, 3) := by decide +kernel
theorem d_Su_average_20 : decode b_Su_average 20 = .ok (.i2d, 1) := by decide +kernel
theorem d_Su_average_21 : decode b_Su_average 21 = .ok (.ddiv, 1) := by decide +kernel
theorem d_Su_average_22 : decode b_Su_average 22 = .ok (.invokestatic 38, 3) := by decide +kernel
theorem d_Su_average_25 : decode b_Su_average 25 = .ok (.areturn, 1) := by decide +kernel
theorem w_Su_average (d : Nat) (a0 : Option Nat) (h : gk_H) : gk_P gw_R (d + 3) y_Su_average b_Su_average 1 (some (.object "ValueAlgebra$Value")) [] (f_Su_average a0 h) 0 [(0, va_rf a0)] [] h := by
  unfold f_Su_average
  refine gk_aload_n (pc := 0) 0 d_Su_average_0 rfl ?_
  refine gk_callV (pc := 1) (d := (d + 2)) (w' := gv_I) (as := []) (n := 0) 4 d_Su_average_1 rfl rfl rfl rfl (Nat.le_of_ble_eq_true rfl) tw_1070 tw_1071 tw_1072 tw_96 cw_Ar_inRow hy_Ar_inRow (Nat.le_of_ble_eq_true rfl) (p_Ar_inRow (d + 2) a0 h) fun x1 h1 => ?_
  refine gk_if_ne (pc := 4) 12 d_Su_average_4 rfl (fun _ => ?_) (fun _ => ?_)
  · refine gk_iconst (pc := 7) (2 : Int32) d_Su_average_7 rfl ?_
    refine gk_callS (pc := 8) (d := (d + 2)) (w' := gv_R) (as := [.int (2 : Int32)]) (n := 1) d_Su_average_8 rfl rfl (Nat.le_of_ble_eq_true rfl) tw_1074 tw_236 tw_97 cw_Va_ofError hy_Va_ofError (Nat.le_of_ble_eq_true rfl) (p_Va_ofError d (2 : Int32) h1) fun x2 h2 => ?_
    exact gk_aret (pc := 11) rfl d_Su_average_11 rfl (Or.inl ⟨_, rfl⟩)
  · refine gk_aload_n (pc := 12) 0 d_Su_average_12 rfl ?_
    refine gk_callS (pc := 13) (d := (d + 2)) (w' := gv_D) (as := [va_rf a0]) (n := 1) d_Su_average_13 rfl rfl (Nat.le_of_ble_eq_true rfl) tw_1207 tw_1208 tw_119 cw_Su_sum hy_Su_sum (Nat.le_of_ble_eq_true rfl) (p_Su_sum (d + 1) a0 h1) fun x3 h3 => ?_
    refine gk_aload_n (pc := 16) 0 d_Su_average_16 rfl ?_
    refine gk_callV (pc := 17) (d := (d + 2)) (w' := gv_I) (as := []) (n := 0) 4 d_Su_average_17 rfl rfl rfl rfl (Nat.le_of_ble_eq_true rfl) tw_1070 tw_1071 tw_1072 tw_96 cw_Ar_inRow hy_Ar_inRow (Nat.le_of_ble_eq_true rfl) (p_Ar_inRow (d + 2) a0 h3) fun x4 h4 => ?_
    refine gk_i2d (pc := 20) d_Su_average_20 ?_
    refine gk_ddivN (pc := 21) d_Su_average_21 fun x5 => ?_
    refine gk_callS (pc := 22) (d := (d + 2)) (w' := gv_R) (as := [.double x5]) (n := 1) d_Su_average_22 rfl rfl (Nat.le_of_ble_eq_true rfl) tw_1047 tw_317 tw_97 cw_Va_ofNumber hy_Va_ofNumber (Nat.le_of_ble_eq_true rfl) (p_Va_ofNumber d x5 h4) fun x6 h5 => ?_
    exact gk_aret (pc := 25) rfl d_Su_average_25 rfl (Or.inl ⟨_, rfl⟩)
theorem p_Su_average (d : Nat) (a0 : Option Nat) (h : gk_H) : ∀ r h1, f_Su_average a0 h = some (r, h1) → gk_M (d + 3) y_Su_average b_Su_average 1 (some (.object "ValueAlgebra$Value")) [va_rf a0] h (.inl (gv_R r)) h1 :=
  fun r h1 e => gk_M_of2 (by decide +kernel) (by simp [lv_args, gk_cat_rf, gk_catI, gk_catJ, gk_catD, gv_V, gv_I, gv_J, gv_D, gv_R]) (by simp [lg_sl, gk_cat_rf, gk_catI, gk_catJ, gk_catD, gv_V, gv_I, gv_J, gv_D, gv_R]) (w_Su_average d a0 h r h1 e)
theorem d_Su_sumOfSquares_0 : decode b_Su_sumOfSquares 0 = .ok (.dconst 0, 1) := by decide +kernel
theorem d_Su_sumOfSquares_1 : decode b_Su_sumOfSquares 1 = .ok (.dstore_n 3, 1) := by decide +kernel
theorem d_Su_sumOfSquares_2 : decode b_Su_sumOfSquares 2 = .ok (.iconst 0, 1) := by decide +kernel
theorem d_Su_sumOfSquares_3 : decode b_Su_sumOfSquares 3 = .ok (.istore 5, 2) := by decide +kernel
theorem d_Su_sumOfSquares_5 : decode b_Su_sumOfSquares 5 = .ok (.iload 5, 2) := by decide +kernel
theorem d_Su_sumOfSquares_7 : decode b_Su_sumOfSquares 7 = .ok (.aload_n 0, 1) := by decide +kernel
theorem d_Su_sumOfSquares_8 : decode b_Su_sumOfSquares 8 = .ok (.invokevirtual 61, 3) := by decide +kernel
theorem d_Su_sumOfSquares_11 : decode b_Su_sumOfSquares 11 = .ok (.if_icmp .ge 34, 3) := by decide +kernel
theorem d_Su_sumOfSquares_14 : decode b_Su_sumOfSquares 14 = .ok (.dload_n 3, 1) := by decide +kernel
theorem d_Su_sumOfSquares_15 : decode b_Su_sumOfSquares 15 = .ok (.invokestatic 73, 3) := by decide +kernel
theorem d_Su_sumOfSquares_18 : decode b_Su_sumOfSquares 18 = .ok (.ifCond .eq 27, 3) := by decide +kernel
theorem d_Su_sumOfSquares_21 : decode b_Su_sumOfSquares 21 = .ok (.aload_n 0, 1) := by decide +kernel
theorem d_Su_sumOfSquares_22 : decode b_Su_sumOfSquares 22 = .ok (.iload 5, 2) := by decide +kernel
theorem d_Su_sumOfSquares_24 : decode b_Su_sumOfSquares 24 = .ok (.invokevirtual 77, 3) := by decide +kernel
theorem d_Su_sumOfSquares_27 : decode b_Su_sumOfSquares 27 = .ok (.dload_n 1, 1) := by decide +kernel
theorem d_Su_sumOfSquares_28 : decode b_Su_sumOfSquares 28 = .ok (.dsub, 1) := by decide +kernel
theorem d_Su_sumOfSquares_29 : decode b_Su_sumOfSquares 29 = .ok (.dstore 6, 2) := by decide +kernel
theorem d_Su_sumOfSquares_31 : decode b_Su_sumOfSquares 31 = .ok (.dload_n 3, 1) := by decide +kernel
theorem d_Su_sumOfSquares_32 : decode b_Su_sumOfSquares 32 = .ok (.dload 6, 2) := by decide +kernel
theorem d_Su_sumOfSquares_34 : decode b_Su_sumOfSquares 34 = .ok (.dload 6, 2) := by decide +kernel
theorem d_Su_sumOfSquares_36 : decode b_Su_sumOfSquares 36 = .ok (.dmul, 1) := by decide +kernel
theorem d_Su_sumOfSquares_37 : decode b_Su_sumOfSquares 37 = .ok (.dadd, 1) := by decide +kernel
theorem d_Su_sumOfSquares_38 : decode b_Su_sumOfSquares 38 = .ok (.dstore_n 3, 1) := by decide +kernel
theorem d_Su_sumOfSquares_39 : decode b_Su_sumOfSquares 39 = .ok (.iinc 5 1, 3) := by decide +kernel
theorem d_Su_sumOfSquares_42 : decode b_Su_sumOfSquares 42 = .ok (.goto (-37), 3) := by decide +kernel
theorem d_Su_sumOfSquares_45 : decode b_Su_sumOfSquares 45 = .ok (.dload_n 3, 1) := by decide +kernel
theorem d_Su_sumOfSquares_46 : decode b_Su_sumOfSquares 46 = .ok (.dreturn, 1) := by decide +kernel
theorem p_Su_sumOfSquares_b45 (d : Nat)  (v3 : UInt64) (h : gk_H) : gk_P gw_D (d + 1) y_Su_sumOfSquares b_Su_sumOfSquares 8 (some .double) [] (f_Su_sumOfSquares_b45  v3 h) 45 [(3, .double v3)] [] h := by
  unfold f_Su_sumOfSquares_b45
  refine gk_dload_n (pc := 45) 0 d_Su_sumOfSquares_45 rfl ?_
  exact gk_dret (pc := 46) rfl d_Su_sumOfSquares_46 rfl
theorem p_Su_sumOfSquares_b5 (d : Nat)  : ∀ (fu : Nat) (v0 : Option Nat) (v1 : UInt64) (v3 : UInt64) (v5 : Int32) (h : gk_H), gk_P gw_D (d + 1) y_Su_sumOfSquares b_Su_sumOfSquares 8 (some .double) [] (f_Su_sumOfSquares_b5  fu v0 v1 v3 v5 h) 5 [(0, va_rf v0), (1, .double v1), (3, .double v3), (5, .int v5)] [] h := by
  intro fu
  induction fu with
  | zero => intros; exact gk_none
  | succ fu q5 =>
    intro v0 v1 v3 v5 h
    rw [f_Su_sumOfSquares_b5]
    refine gk_iload (pc := 5) 3 d_Su_sumOfSquares_5 rfl ?_
    refine gk_aload_n (pc := 7) 0 d_Su_sumOfSquares_7 rfl ?_
    refine gk_callV (pc := 8) (d := d) (w' := gv_I) (as := []) (n := 0) 4 d_Su_sumOfSquares_8 rfl rfl rfl rfl (Nat.le_of_ble_eq_true rfl) tw_1070 tw_1071 tw_1072 tw_96 cw_Ar_inRow hy_Ar_inRow (Nat.le_of_ble_eq_true rfl) (p_Ar_inRow d v0 h) fun x1 h1 => ?_
    refine gk_icmp_ge (pc := 11) 45 d_Su_sumOfSquares_11 rfl (fun _ => ?_) (fun _ => ?_)
    · refine gk_weak [2] (L' := [(3, .double v3)]) rfl ?_
      exact p_Su_sumOfSquares_b45 d v3 h1
    · refine gk_dload_n (pc := 14) 2 d_Su_sumOfSquares_14 rfl ?_
      refine gk_callS (pc := 15) (d := d) (w' := gv_I) (as := [.double v3]) (n := 1) d_Su_sumOfSquares_15 rfl rfl (Nat.le_of_ble_eq_true rfl) tw_1095 tw_320 tw_97 cw_Va_isFinite hy_Va_isFinite (Nat.le_of_ble_eq_true rfl) (p_Va_isFinite d v3 h1) fun x2 h2 => ?_
      refine gk_if_eq (pc := 18) 45 d_Su_sumOfSquares_18 rfl (fun _ => ?_) (fun _ => ?_)
      · refine gk_weak [2] (L' := [(3, .double v3)]) rfl ?_
        exact p_Su_sumOfSquares_b45 d v3 h2
      · refine gk_aload_n (pc := 21) 0 d_Su_sumOfSquares_21 rfl ?_
        refine gk_iload (pc := 22) 3 d_Su_sumOfSquares_22 rfl ?_
        refine gk_callV (pc := 24) (d := d) (w' := gv_D) (as := [.int v5]) (n := 1) 4 d_Su_sumOfSquares_24 rfl rfl rfl rfl (Nat.le_of_ble_eq_true rfl) tw_1079 tw_1080 tw_1081 tw_96 cw_Ar_ofRow hy_Ar_ofRow (Nat.le_of_ble_eq_true rfl) (p_Ar_ofRow d v0 v5 h2) fun x3 h3 => ?_
        refine gk_dload_n (pc := 27) 1 d_Su_sumOfSquares_27 rfl ?_
        refine gk_dsubN (pc := 28) d_Su_sumOfSquares_28 fun x4 => ?_
        refine gk_dstore (pc := 29) (L' := [(6, .double x4), (0, va_rf v0), (1, .double v1), (3, .double v3), (5, .int v5)]) d_Su_sumOfSquares_29 (Nat.le_of_ble_eq_true rfl) rfl ?_
        refine gk_dload_n (pc := 31) 3 d_Su_sumOfSquares_31 rfl ?_
        refine gk_dload (pc := 32) 0 d_Su_sumOfSquares_32 rfl ?_
        refine gk_dload (pc := 34) 0 d_Su_sumOfSquares_34 rfl ?_
        refine gk_dmulN (pc := 36) d_Su_sumOfSquares_36 fun x5 => ?_
        refine gk_daddN (pc := 37) d_Su_sumOfSquares_37 fun x6 => ?_
        refine gk_dstore_n (pc := 38) (L' := [(3, .double x6), (6, .double x4), (0, va_rf v0), (1, .double v1), (5, .int v5)]) d_Su_sumOfSquares_38 (Nat.le_of_ble_eq_true rfl) rfl ?_
        refine gk_iincN (pc := 39) 4 (1 : Int32) (L' := fun x7 => [(5, .int x7), (3, .double x6), (6, .double x4), (0, va_rf v0), (1, .double v1)]) d_Su_sumOfSquares_39 rfl rfl (Nat.le_of_ble_eq_true rfl) (fun _ => rfl) fun x7 => ?_
        refine gk_goto (pc := 42) 5 d_Su_sumOfSquares_42 rfl ?_
        refine gk_weak [3, 4, 1, 0] (L' := [(0, va_rf v0), (1, .double v1), (3, .double x6), (5, .int x7)]) rfl ?_
        exact q5 v0 v1 x6 x7 h3
theorem w_Su_sumOfSquares (d : Nat) (a0 : Option Nat) (a1 : UInt64) (h : gk_H) : gk_P gw_D (d + 1) y_Su_sumOfSquares b_Su_sumOfSquares 8 (some .double) [] (f_Su_sumOfSquares a0 a1 h) 0 [(0, va_rf a0), (1, .double a1)] [] h := by
  unfold f_Su_sumOfSquares
  refine gk_dconst0 (pc := 0) d_Su_sumOfSquares_0 ?_
  refine gk_dstore_n (pc := 1) (L' := [(3, .double (0x0000000000000000)), (0, va_rf a0), (1, .double a1)]) d_Su_sumOfSquares_1 (Nat.le_of_ble_eq_true rfl) rfl ?_
  refine gk_iconst (pc := 2) (0 : Int32) d_Su_sumOfSquares_2 rfl ?_
  refine gk_istore (pc := 3) (L' := [(5, .int (0 : Int32)), (3, .double (0x0000000000000000)), (0, va_rf a0), (1, .double a1)]) d_Su_sumOfSquares_3 (Nat.le_of_ble_eq_true rfl) rfl ?_
  refine gk_weak [2, 3, 1, 0] (L' := [(0, va_rf a0), (1, .double a1), (3, .double (0x0000000000000000)), (5, .int (0 : Int32))]) rfl ?_
  exact p_Su_sumOfSquares_b5 d gk_F a0 a1 (0x0000000000000000) (0 : Int32) h
theorem p_Su_sumOfSquares (d : Nat) (a0 : Option Nat) (a1 : UInt64) (h : gk_H) : ∀ r h1, f_Su_sumOfSquares a0 a1 h = some (r, h1) → gk_M (d + 1) y_Su_sumOfSquares b_Su_sumOfSquares 8 (some .double) [va_rf a0, .double a1] h (.inl (gv_D r)) h1 :=
  fun r h1 e => gk_M_of2 (by decide +kernel) (by simp [lv_args, gk_cat_rf, gk_catI, gk_catJ, gk_catD, gv_V, gv_I, gv_J, gv_D, gv_R]) (by simp [lg_sl, gk_cat_rf, gk_catI, gk_catJ, gk_catD, gv_V, gv_I, gv_J, gv_D, gv_R]) (w_Su_sumOfSquares d a0 a1 h r h1 e)
theorem d_Su_variance_0 : decode b_Su_variance 0 = .ok (.aload_n 0, 1) := by decide +kernel
theorem d_Su_variance_1 : decode b_Su_variance 1 = .ok (.invokestatic 51, 3) := by decide +kernel
theorem d_Su_variance_4 : decode b_Su_variance 4 = .ok (.astore_n 2, 1) := by decide +kernel
theorem d_Su_variance_5 : decode b_Su_variance 5 = .ok (.aload_n 2, 1) := by decide +kernel
theorem d_Su_variance_6 : decode b_Su_variance 6 = .ok (.getfield 85, 3) := by decide +kernel
theorem d_Su_variance_9 : decode b_Su_variance 9 = .ok (.iconst 4, 1) := by decide +kernel
theorem d_Su_variance_10 : decode b_Su_variance 10 = .ok (.if_icmp .ne 5, 3) := by decide +kernel
theorem d_Su_variance_13 : decode b_Su_variance 13 = .ok (.aload_n 2, 1) := by decide +kernel
theorem d_Su_variance_14 : decode b_Su_variance 14 = .ok (.areturn, 1) := by decide +kernel
theorem d_Su_variance_15 : decode b_Su_variance 15 = .ok (.aload_n 0, 1) := by decide +kernel
theorem d_Su_variance_16 : decode b_Su_variance 16 = .ok (.aload_n 2, 1) := by decide +kernel
theorem d_Su_variance_17 : decode b_Su_variance 17 = .ok (.getfield 89, 3) := by decide +kernel
theorem d_Su_variance_20 : decode b_Su_variance 20 = .ok (.invokestatic 47, 3) := by decide +kernel
theorem d_Su_variance_23 : decode b_Su_variance 23 = .ok (.dstore_n 3, 1) := by decide +kernel
theorem d_Su_variance_24 : decode b_Su_variance 24 = .ok (.dload_n 3, 1) := by decide +kernel
theorem d_Su_variance_25 : decode b_Su_variance 25 = .ok (.invokestatic 73, 3) := by decide +kernel
theorem d_Su_variance_28 : decode b_Su_variance 28 = .ok (.ifCond .ne 9, 3) := by decide +kernel
theorem d_Su_variance_31 : decode b_Su_variance 31 = .ok (.bipush 6, 2) := by decide +kernel
theorem d_Su_variance_33 : decode b_Su_variance 33 = .ok (.invokestatic 69, 3) := by decide +kernel
theorem d_Su_variance_36 : decode b_Su_variance 36 = .ok (.areturn, 1) := by decide +kernel
theorem d_Su_variance_37 : decode b_Su_variance 37 = .ok (.iload_n 1, 1) := by decide +kernel
theorem d_Su_variance_38 : decode b_Su_variance 38 = .ok (.ifCond .le 13, 3) := by decide +kernel
theorem d_Su_variance_41 : decode b_Su_variance 41 = .ok (.dload_n 3, 1) := by decide +kernel
theorem d_Su_variance_42 : decode b_Su_variance 42 = .ok (.iload_n 1, 1) := by decide +kernel
theorem d_Su_variance_43 : decode b_Su_variance 43 = .ok (.i2d, 1) := by decide +kernel
theorem d_Su_variance_44 : decode b_Su_variance 44 = .ok (.ddiv, 1) := by decide +kernel
theorem d_Su_variance_45 : decode b_Su_variance 45 = .ok (.invokestatic 38, 3) := by decide +kernel
theorem d_Su_variance_48 : decode b_Su_variance 48 = .ok (.goto 7, 3) := by decide +kernel
theorem d_Su_variance_51 : decode b_Su_variance 51 = .ok (.iconst 2, 1) := by decide +kernel
theorem d_Su_variance_52 : decode b_Su_variance 52 = .ok (.invokestatic 69, 3) := by decide +kernel
theorem d_Su_variance_55 : decode b_Su_variance 55 = .ok (.areturn, 1) := by decide +kernel
theorem p_Su_variance_b55 (d : Nat)  (s0 : Option Nat) (h : gk_H) : gk_P gw_R (d + 4) y_Su_variance b_Su_variance 5 (some (.object "ValueAlgebra$Value")) [] (f_Su_variance_b55  s0 h) 55 [] [va_rf s0] h := by
  unfold f_Su_variance_b55
  exact gk_aret (pc := 55) rfl d_Su_variance_55 rfl (Or.inl ⟨_, rfl⟩)
theorem w_Su_variance (d : Nat) (a0 : Option Nat) (a1 : Int32) (h : gk_H) : gk_P gw_R (d + 4) y_Su_variance b_Su_variance 5 (some (.object "ValueAlgebra$Value")) [] (f_Su_variance a0 a1 h) 0 [(0, va_rf a0), (1, .int a1)] [] h := by
  unfold f_Su_variance
  refine gk_aload_n (pc := 0) 0 d_Su_variance_0 rfl ?_
  refine gk_callS (pc := 1) (d := (d + 3)) (w' := gv_R) (as := [va_rf a0]) (n := 1) d_Su_variance_1 rfl rfl (Nat.le_of_ble_eq_true rfl) tw_1216 tw_1217 tw_119 cw_Su_average hy_Su_average (Nat.le_of_ble_eq_true rfl) (p_Su_average d a0 h) fun x1 h1 => ?_
  refine gk_astore_n (pc := 4) (L' := [(2, va_rf x1), (0, va_rf a0), (1, .int a1)]) d_Su_variance_4 (Nat.le_of_ble_eq_true rfl) rfl ?_
  refine gk_aload_n (pc := 5) 0 d_Su_variance_5 rfl ?_
  refine gk_getI (pc := 6) 2 0 d_Su_variance_6 rfl (Nat.le_of_ble_eq_true rfl) tw_192 fun x2 => ?_
  refine gk_iconst (pc := 9) (4 : Int32) d_Su_variance_9 rfl ?_
  refine gk_icmp_ne (pc := 10) 15 d_Su_variance_10 rfl (fun _ => ?_) (fun _ => ?_)
  · refine gk_aload_n (pc := 13) 0 d_Su_variance_13 rfl ?_
    exact gk_aret (pc := 14) rfl d_Su_variance_14 rfl (Or.inl ⟨_, rfl⟩)
  · refine gk_aload_n (pc := 15) 1 d_Su_variance_15 rfl ?_
    refine gk_aload_n (pc := 16) 0 d_Su_variance_16 rfl ?_
    refine gk_getD (pc := 17) 2 2 d_Su_variance_17 rfl (Nat.le_of_ble_eq_true rfl) tw_202 fun x3 => ?_
    refine gk_callS (pc := 20) (d := (d + 3)) (w' := gv_D) (as := [va_rf a0, .double x3]) (n := 2) d_Su_variance_20 rfl rfl (Nat.le_of_ble_eq_true rfl) tw_1213 tw_1214 tw_119 cw_Su_sumOfSquares hy_Su_sumOfSquares (Nat.le_of_ble_eq_true rfl) (p_Su_sumOfSquares (d + 2) a0 x3 h1) fun x4 h2 => ?_
    refine gk_dstore_n (pc := 23) (L' := [(3, .double x4), (2, va_rf x1), (0, va_rf a0), (1, .int a1)]) d_Su_variance_23 (Nat.le_of_ble_eq_true rfl) (by simp [gk_s1, gk_s2, gk_cat_rf, gk_catI, gk_catJ, gk_catD] <;> decide) ?_
    refine gk_dload_n (pc := 24) 0 d_Su_variance_24 rfl ?_
    refine gk_callS (pc := 25) (d := (d + 3)) (w' := gv_I) (as := [.double x4]) (n := 1) d_Su_variance_25 rfl rfl (Nat.le_of_ble_eq_true rfl) tw_1095 tw_320 tw_97 cw_Va_isFinite hy_Va_isFinite (Nat.le_of_ble_eq_true rfl) (p_Va_isFinite (d + 3) x4 h2) fun x5 h3 => ?_
    refine gk_if_ne (pc := 28) 37 d_Su_variance_28 rfl (fun _ => ?_) (fun _ => ?_)
    · refine gk_bipush (pc := 31) (6 : Int32) d_Su_variance_31 rfl ?_
      refine gk_callS (pc := 33) (d := (d + 3)) (w' := gv_R) (as := [.int (6 : Int32)]) (n := 1) d_Su_variance_33 rfl rfl (Nat.le_of_ble_eq_true rfl) tw_1074 tw_236 tw_97 cw_Va_ofError hy_Va_ofError (Nat.le_of_ble_eq_true rfl) (p_Va_ofError (d + 1) (6 : Int32) h3) fun x6 h4 => ?_
      exact gk_aret (pc := 36) rfl d_Su_variance_36 rfl (Or.inl ⟨_, rfl⟩)
    · refine gk_iload_n (pc := 37) 3 d_Su_variance_37 rfl ?_
      refine gk_if_le (pc := 38) 51 d_Su_variance_38 rfl (fun _ => ?_) (fun _ => ?_)
      · refine gk_iconst (pc := 51) (2 : Int32) d_Su_variance_51 rfl ?_
        refine gk_callS (pc := 52) (d := (d + 3)) (w' := gv_R) (as := [.int (2 : Int32)]) (n := 1) d_Su_variance_52 rfl rfl (Nat.le_of_ble_eq_true rfl) tw_1074 tw_236 tw_97 cw_Va_ofError hy_Va_ofError (Nat.le_of_ble_eq_true rfl) (p_Va_ofError (d + 1) (2 : Int32) h3) fun x7 h5 => ?_
        refine gk_weak [] (L' := []) rfl ?_
        exact p_Su_variance_b55 d x7 h5
      · refine gk_dload_n (pc := 41) 0 d_Su_variance_41 rfl ?_
        refine gk_iload_n (pc := 42) 3 d_Su_variance_42 rfl ?_
        refine gk_i2d (pc := 43) d_Su_variance_43 ?_
        refine gk_ddivN (pc := 44) d_Su_variance_44 fun x8 => ?_
        refine gk_callS (pc := 45) (d := (d + 3)) (w' := gv_R) (as := [.double x8]) (n := 1) d_Su_variance_45 rfl rfl (Nat.le_of_ble_eq_true rfl) tw_1047 tw_317 tw_97 cw_Va_ofNumber hy_Va_ofNumber (Nat.le_of_ble_eq_true rfl) (p_Va_ofNumber (d + 1) x8 h3) fun x9 h6 => ?_
        refine gk_goto (pc := 48) 55 d_Su_variance_48 rfl ?_
        refine gk_weak [] (L' := []) rfl ?_
        exact p_Su_variance_b55 d x9 h6
theorem p_Su_variance (d : Nat) (a0 : Option Nat) (a1 : Int32) (h : gk_H) : ∀ r h1, f_Su_variance a0 a1 h = some (r, h1) → gk_M (d + 4) y_Su_variance b_Su_variance 5 (some (.object "ValueAlgebra$Value")) [va_rf a0, .int a1] h (.inl (gv_R r)) h1 :=
  fun r h1 e => gk_M_of2 (by decide +kernel) (by simp [lv_args, gk_cat_rf, gk_catI, gk_catJ, gk_catD, gv_V, gv_I, gv_J, gv_D, gv_R]) (by simp [lg_sl, gk_cat_rf, gk_catI, gk_catJ, gk_catD, gv_V, gv_I, gv_J, gv_D, gv_R]) (w_Su_variance d a0 a1 h r h1 e)
theorem d_Su_median_0 : decode b_Su_median 0 = .ok (.aload_n 0, 1) := by decide +kernel
theorem d_Su_median_1 : decode b_Su_median 1 = .ok (.invokevirtual 61, 3) := by decide +kernel
theorem d_Su_median_4 : decode b_Su_median 4 = .ok (.istore_n 1, 1) := by decide +kernel
theorem d_Su_median_5 : decode b_Su_median 5 = .ok (.iload_n 1, 1) := by decide +kernel
theorem d_Su_median_6 : decode b_Su_median 6 = .ok (.ifCond .ne 9, 3) := by decide +kernel
theorem d_Su_median_9 : decode b_Su_median 9 = .ok (.bipush 6, 2) := by decide +kernel
theorem d_Su_median_11 : decode b_Su_median 11 = .ok (.invokestatic 69, 3) := by decide +kernel
theorem d_Su_median_14 : decode b_Su_median 14 = .ok (.areturn, 1) := by decide +kernel
theorem d_Su_median_15 : decode b_Su_median 15 = .ok (.aload_n 0, 1) := by decide +kernel
theorem d_Su_median_16 : decode b_Su_median 16 = .ok (.invokevirtual 80, 3) := by decide +kernel
theorem d_Su_median_19 : decode b_Su_median 19 = .ok (.aload_n 0, 1) := by decide +kernel
theorem d_Su_median_20 : decode b_Su_median 20 = .ok (.iload_n 1, 1) := by decide +kernel
theorem d_Su_median_21 : decode b_Su_median 21 = .ok (.iconst 2, 1) := by decide +kernel
theorem d_Su_median_22 : decode b_Su_median 22 = .ok (.idiv, 1) := by decide +kernel
theorem d_Su_median_23 : decode b_Su_median 23 = .ok (.invokevirtual 77, 3) := by decide +kernel
theorem d_Su_median_26 : decode b_Su_median 26 = .ok (.dstore_n 2, 1) := by decide +kernel
theorem d_Su_median_27 : decode b_Su_median 27 = .ok (.iload_n 1, 1) := by decide +kernel
theorem d_Su_median_28 : decode b_Su_median 28 = .ok (.iconst 2, 1) := by decide +kernel
theorem d_Su_median_29 : decode b_Su_median 29 = .ok (.irem, 1) := by decide +kernel
theorem d_Su_median_30 : decode b_Su_median 30 = .ok (.iconst 1, 1) := by decide +kernel
theorem d_Su_median_31 : decode b_Su_median 31 = .ok (.if_icmp .ne 8, 3) := by decide +kernel
theorem d_Su_median_34 : decode b_Su_median 34 = .ok (.dload_n 2, 1) := by decide +kernel
theorem d_Su_median_35 : decode b_Su_median 35 = .ok (.invokestatic 38, 3) := by decide +kernel
theorem d_Su_median_38 : decode b_Su_median 38 = .ok (.areturn, 1) := by decide +kernel
theorem d_Su_median_39 : decode b_Su_median 39 = .ok (.aload_n 0, 1) := by decide +kernel
theorem d_Su_median_40 : decode b_Su_median 40 = .ok (.iload_n 1, 1) := by decide +kernel
theorem d_Su_median_41 : decode b_Su_median 41 = .ok (.iconst 2, 1) := by decide +kernel
theorem d_Su_median_42 : decode b_Su_median 42 = .ok (.idiv, 1) := by decide +kernel
theorem d_Su_median_43 : decode b_Su_median 43 = .ok (.iconst 1, 1) := by decide +kernel
theorem d_Su_median_44 : decode b_Su_median 44 = .ok (.isub, 1) := by decide +kernel
theorem d_Su_median_45 : decode b_Su_median 45 = .ok (.invokevirtual 77, 3) := by decide +kernel
theorem d_Su_median_48 : decode b_Su_median 48 = .ok (.dload_n 2, 1) := by decide +kernel
theorem d_Su_median_49 : decode b_Su_median 49 = .ok (.dadd, 1) := by decide +kernel
theorem d_Su_median_50 : decode b_Su_median 50 = .ok (.ldc2_w 83, 3) := by decide +kernel
theorem d_Su_median_53 : decode b_Su_median 53 = .ok (.ddiv, 1) := by decide +kernel
theorem d_Su_median_54 : decode b_Su_median 54 = .ok (.invokestatic 38, 3) := by decide +kernel
theorem d_Su_median_57 : decode b_Su_median 57 = .ok (.areturn, 1) := by decide +kernel
theorem w_Su_median (d : Nat) (a0 : Option Nat) (h : gk_H) : gk_P gw_R (d + 3) y_Su_median b_Su_median 4 (some (.object "ValueAlgebra$Value")) [] (f_Su_median a0 h) 0 [(0, va_rf a0)] [] h := by
  unfold f_Su_median
  refine gk_aload_n (pc := 0) 0 d_Su_median_0 rfl ?_
  refine gk_callV (pc := 1) (d := (d + 2)) (w' := gv_I) (as := []) (n := 0) 4 d_Su_median_1 rfl rfl rfl rfl (Nat.le_of_ble_eq_true rfl) tw_1070 tw_1071 tw_1072 tw_96 cw_Ar_inRow hy_Ar_inRow (Nat.le_of_ble_eq_true rfl) (p_Ar_inRow (d + 2) a0 h) fun x1 h1 => ?_
  refine gk_istore_n (pc := 4) (L' := [(1, .int x1), (0, va_rf a0)]) d_Su_median_4 (Nat.le_of_ble_eq_true rfl) (by simp [gk_s1, gk_s2, gk_cat_rf, gk_catI, gk_catJ, gk_catD] <;> decide) ?_
  refine gk_iload_n (pc := 5) 0 d_Su_median_5 rfl ?_
  refine gk_if_ne (pc := 6) 15 d_Su_median_6 rfl (fun _ => ?_) (fun _ => ?_)
  · refine gk_bipush (pc := 9) (6 : Int32) d_Su_median_9 rfl ?_
    refine gk_callS (pc := 11) (d := (d + 2)) (w' := gv_R) (as := [.int (6 : Int32)]) (n := 1) d_Su_median_11 rfl rfl (Nat.le_of_ble_eq_true rfl) tw_1074 tw_236 tw_97 cw_Va_ofError hy_Va_ofError (Nat.le_of_ble_eq_true rfl) (p_Va_ofError d (6 : Int32) h1) fun x2 h2 => ?_
    exact gk_aret (pc := 14) rfl d_Su_median_14 rfl (Or.inl ⟨_, rfl⟩)
  · refine gk_aload_n (pc := 15) 1 d_Su_median_15 rfl ?_
    refine gk_callV (pc := 16) (d := (d + 2)) (w' := gv_V) (as := []) (n := 0) 4 d_Su_median_16 rfl rfl rfl rfl (Nat.le_of_ble_eq_true rfl) tw_1075 tw_1076 tw_1077 tw_96 cw_Ar_sortRow hy_Ar_sortRow (Nat.le_of_ble_eq_true rfl) (p_Ar_sortRow (d + 2) a0 h1) fun _ h3 => ?_
    refine gk_aload_n (pc := 19) 1 d_Su_median_19 rfl ?_
    refine gk_iload_n (pc := 20) 0 d_Su_median_20 rfl ?_
    refine gk_iconst (pc := 21) (2 : Int32) d_Su_median_21 rfl ?_
    refine gk_idiv (pc := 22) (by decide) d_Su_median_22 ?_
    refine gk_callV (pc := 23) (d := (d + 2)) (w' := gv_D) (as := [.int (x1 / (2 : Int32))]) (n := 1) 4 d_Su_median_23 rfl rfl rfl rfl (Nat.le_of_ble_eq_true rfl) tw_1079 tw_1080 tw_1081 tw_96 cw_Ar_ofRow hy_Ar_ofRow (Nat.le_of_ble_eq_true rfl) (p_Ar_ofRow (d + 2) a0 (x1 / (2 : Int32)) h3) fun x3 h4 => ?_
    refine gk_dstore_n (pc := 26) (L' := [(2, .double x3), (1, .int x1), (0, va_rf a0)]) d_Su_median_26 (Nat.le_of_ble_eq_true rfl) rfl ?_
    refine gk_iload_n (pc := 27) 1 d_Su_median_27 rfl ?_
    refine gk_iconst (pc := 28) (2 : Int32) d_Su_median_28 rfl ?_
    refine gk_irem (pc := 29) (by decide) d_Su_median_29 ?_
    refine gk_iconst (pc := 30) (1 : Int32) d_Su_median_30 rfl ?_
    refine gk_icmp_ne (pc := 31) 39 d_Su_median_31 rfl (fun _ => ?_) (fun _ => ?_)
    · refine gk_dload_n (pc := 34) 0 d_Su_median_34 rfl ?_
      refine gk_callS (pc := 35) (d := (d + 2)) (w' := gv_R) (as := [.double x3]) (n := 1) d_Su_median_35 rfl rfl (Nat.le_of_ble_eq_true rfl) tw_1047 tw_317 tw_97 cw_Va_ofNumber hy_Va_ofNumber (Nat.le_of_ble_eq_true rfl) (p_Va_ofNumber d x3 h4) fun x4 h5 => ?_
      exact gk_aret (pc := 38) rfl d_Su_median_38 rfl (Or.inl ⟨_, rfl⟩)
    · refine gk_aload_n (pc := 39) 2 d_Su_median_39 rfl ?_
      refine gk_iload_n (pc := 40) 1 d_Su_median_40 rfl ?_
      refine gk_iconst (pc := 41) (2 : Int32) d_Su_median_41 rfl ?_
      refine gk_idiv (pc := 42) (by decide) d_Su_median_42 ?_
      refine gk_iconst (pc := 43) (1 : Int32) d_Su_median_43 rfl ?_
      refine gk_isub (pc := 44) d_Su_median_44 ?_
      refine gk_callV (pc := 45) (d := (d + 2)) (w' := gv_D) (as := [.int ((x1 / (2 : Int32)) - (1 : Int32))]) (n := 1) 4 d_Su_median_45 rfl rfl rfl rfl (Nat.le_of_ble_eq_true rfl) tw_1079 tw_1080 tw_1081 tw_96 cw_Ar_ofRow hy_Ar_ofRow (Nat.le_of_ble_eq_true rfl) (p_Ar_ofRow (d + 2) a0 ((x1 / (2 : Int32)) - (1 : Int32)) h4) fun x5 h6 => ?_
      refine gk_dload_n (pc := 48) 0 d_Su_median_48 rfl ?_
      refine gk_daddN (pc := 49) d_Su_median_49 fun x6 => ?_
      refine gk_ldc2d (pc := 50) tw_1225 d_Su_median_50 ?_
      refine gk_ddivN (pc := 53) d_Su_median_53 fun x7 => ?_
      refine gk_callS (pc := 54) (d := (d + 2)) (w' := gv_R) (as := [.double x7]) (n := 1) d_Su_median_54 rfl rfl (Nat.le_of_ble_eq_true rfl) tw_1047 tw_317 tw_97 cw_Va_ofNumber hy_Va_ofNumber (Nat.le_of_ble_eq_true rfl) (p_Va_ofNumber d x7 h6) fun x8 h7 => ?_
      exact gk_aret (pc := 57) rfl d_Su_median_57 rfl (Or.inl ⟨_, rfl⟩)
theorem p_Su_median (d : Nat) (a0 : Option Nat) (h : gk_H) : ∀ r h1, f_Su_median a0 h = some (r, h1) → gk_M (d + 3) y_Su_median b_Su_median 4 (some (.object "ValueAlgebra$Value")) [va_rf a0] h (.inl (gv_R r)) h1 :=
  fun r h1 e => gk_M_of2 (by decide +kernel) (by simp [lv_args, gk_cat_rf, gk_catI, gk_catJ, gk_catD, gv_V, gv_I, gv_J, gv_D, gv_R]) (by simp [lg_sl, gk_cat_rf, gk_catI, gk_catJ, gk_catD, gv_V, gv_I, gv_J, gv_D, gv_R]) (w_Su_median d a0 h r h1 e)
theorem d_Su_extreme_0 : decode b_Su_extreme 0 = .ok (.aload_n 0, 1) := by decide +kernel
theorem d_Su_extreme_1 : decode b_Su_extreme 1 = .ok (.iconst 0, 1) := by decide +kernel
theorem d_Su_extreme_2 : decode b_Su_extreme 2 = .ok (.invokevirtual 77, 3) := by decide +kernel
theorem d_Su_extreme_5 : decode b_Su_extreme 5 = .ok (.dstore_n 2, 1) := by decide +kernel
theorem d_Su_extreme_6 : decode b_Su_extreme 6 = .ok (.iconst 1, 1) := by decide +kernel
theorem d_Su_extreme_7 : decode b_Su_extreme 7 = .ok (.istore 4, 2) := by decide +kernel
theorem d_Su_extreme_9 : decode b_Su_extreme 9 = .ok (.iload 4, 2) := by decide +kernel
theorem d_Su_extreme_11 : decode b_Su_extreme 11 = .ok (.aload_n 0, 1) := by decide +kernel
theorem d_Su_extreme_12 : decode b_Su_extreme 12 = .ok (.invokevirtual 61, 3) := by decide +kernel
theorem d_Su_extreme_15 : decode b_Su_extreme 15 = .ok (.if_icmp .ge 41, 3) := by decide +kernel
theorem d_Su_extreme_18 : decode b_Su_extreme 18 = .ok (.aload_n 0, 1) := by decide +kernel
theorem d_Su_extreme_19 : decode b_Su_extreme 19 = .ok (.iload 4, 2) := by decide +kernel
theorem d_Su_extreme_21 : decode b_Su_extreme 21 = .ok (.invokevirtual 77, 3) := by decide +kernel
theorem d_Su_extreme_24 : decode b_Su_extreme 24 = .ok (.dstore 5, 2) := by decide +kernel
theorem d_Su_extreme_26 : decode b_Su_extreme 26 = .ok (.iload_n 1, 1) := by decide +kernel
theorem d_Su_extreme_27 : decode b_Su_extreme 27 = .ok (.ifCond .eq 13, 3) := by decide +kernel
theorem d_Su_extreme_30 : decode b_Su_extreme 30 = .ok (.dload 5, 2) := by decide +kernel
theorem d_Su_extreme_32 : decode b_Su_extreme 32 = .ok (.dload_n 2, 1) := by decide +kernel
theorem d_Su_extreme_33 : decode b_Su_extreme 33 = .ok (.dcmp .l, 1) := by decide +kernel
theorem d_Su_extreme_34 : decode b_Su_extreme 34 = .ok (.ifCond .le 16, 3) := by decide +kernel
theorem d_Su_extreme_37 : decode b_Su_extreme 37 = .ok (.goto 10, 3) := by decide +kernel
theorem d_Su_extreme_40 : decode b_Su_extreme 40 = .ok (.dload 5, 2) := by decide +kernel
theorem d_Su_extreme_42 : decode b_Su_extreme 42 = .ok (.dload_n 2, 1) := by decide +kernel
theorem d_Su_extreme_43 : decode b_Su_extreme 43 = .ok (.dcmp .g, 1) := by decide +kernel
theorem d_Su_extreme_44 : decode b_Su_extreme 44 = .ok (.ifCond .ge 6, 3) := by decide +kernel
theorem d_Su_extreme_47 : decode b_Su_extreme 47 = .ok (.dload 5, 2) := by decide +kernel
theorem d_Su_extreme_49 : decode b_Su_extreme 49 = .ok (.dstore_n 2, 1) := by decide +kernel
theorem d_Su_extreme_50 : decode b_Su_extreme 50 = .ok (.iinc 4 1, 3) := by decide +kernel
theorem d_Su_extreme_53 : decode b_Su_extreme 53 = .ok (.goto (-44), 3) := by decide +kernel
theorem d_Su_extreme_56 : decode b_Su_extreme 56 = .ok (.dload_n 2, 1) := by decide +kernel
theorem d_Su_extreme_57 : decode b_Su_extreme 57 = .ok (.dreturn, 1) := by decide +kernel
theorem p_Su_extreme_b50 (d : Nat) (b9 : Option Nat → Int32 → UInt64 → Int32 → gk_H → Option (UInt64 × gk_H)) (q9 : ∀ (v0 : Option Nat) (v1 : Int32) (v2 : UInt64) (v4 : Int32) (h : gk_H), gk_P gw_D (d + 1) y_Su_extreme b_Su_extreme 7 (some .double) [] (b9 v0 v1 v2 v4 h) 9 [(0, va_rf v0), (1, .int v1), (2, .double v2), (4, .int v4)] [] h) (v0 : Option Nat) (v1 : Int32) (v2 : UInt64) (v4 : Int32) (h : gk_H) : gk_P gw_D (d + 1) y_Su_extreme b_Su_extreme 7 (some .double) [] (f_Su_extreme_b50 b9 v0 v1 v2 v4 h) 50 [(0, va_rf v0), (1, .int v1), (2, .double v2), (4, .int v4)] [] h := by
  unfold f_Su_extreme_b50
  refine gk_iincN (pc := 50) 3 (1 : Int32) (L' := fun x1 => [(4, .int x1), (0, va_rf v0), (1, .int v1), (2, .double v2)]) d_Su_extreme_50 rfl rfl (Nat.le_of_ble_eq_true rfl) (fun _ => rfl) fun x1 => ?_
  refine gk_goto (pc := 53) 9 d_Su_extreme_53 rfl ?_
  refine gk_weak [1, 2, 3, 0] (L' := [(0, va_rf v0), (1, .int v1), (2, .double v2), (4, .int x1)]) rfl ?_
  exact q9 v0 v1 v2 x1 h
theorem p_Su_extreme_b47 (d : Nat) (b9 : Option Nat → Int32 → UInt64 → Int32 → gk_H → Option (UInt64 × gk_H)) (q9 : ∀ (v0 : Option Nat) (v1 : Int32) (v2 : UInt64) (v4 : Int32) (h : gk_H), gk_P gw_D (d + 1) y_Su_extreme b_Su_extreme 7 (some .double) [] (b9 v0 v1 v2 v4 h) 9 [(0, va_rf v0), (1, .int v1), (2, .double v2), (4, .int v4)] [] h) (v0 : Option Nat) (v1 : Int32) (v4 : Int32) (v5 : UInt64) (h : gk_H) : gk_P gw_D (d + 1) y_Su_extreme b_Su_extreme 7 (some .double) [] (f_Su_extreme_b47 b9 v0 v1 v4 v5 h) 47 [(0, va_rf v0), (1, .int v1), (4, .int v4), (5, .double v5)] [] h := by
  unfold f_Su_extreme_b47
  refine gk_dload (pc := 47) 3 d_Su_extreme_47 rfl ?_
  refine gk_dstore_n (pc := 49) (L' := [(2, .double v5), (0, va_rf v0), (1, .int v1), (4, .int v4), (5, .double v5)]) d_Su_extreme_49 (Nat.le_of_ble_eq_true rfl) rfl ?_
  refine gk_weak [1, 2, 0, 3] (L' := [(0, va_rf v0), (1, .int v1), (2, .double v5), (4, .int v4)]) rfl ?_
  exact p_Su_extreme_b50 d b9 q9 v0 v1 v5 v4 h
theorem p_Su_extreme_b9 (d : Nat)  : ∀ (fu : Nat) (v0 : Option Nat) (v1 : Int32) (v2 : UInt64) (v4 : Int32) (h : gk_H), gk_P gw_D (d + 1) y_Su_extreme b_Su_extreme 7 (some .double) [] (f_Su_extreme_b9  fu v0 v1 v2 v4 h) 9 [(0, va_rf v0), (1, .int v1), (2, .double v2), (4, .int v4)] [] h := by
  intro fu
  induction fu with
  | zero => intros; exact gk_none
  | succ fu q9 =>
    intro v0 v1 v2 v4 h
    rw [f_Su_extreme_b9]
    refine gk_iload (pc := 9) 3 d_Su_extreme_9 rfl ?_
    refine gk_aload_n (pc := 11) 0 d_Su_extreme_11 rfl ?_
    refine gk_callV (pc := 12) (d := d) (w' := gv_I) (as := []) (n := 0) 4 d_Su_extreme_12 rfl rfl rfl rfl (Nat.le_of_ble_eq_true rfl) tw_1070 tw_1071 tw_1072 tw_96 cw_Ar_inRow hy_Ar_inRow (Nat.le_of_ble_eq_true rfl) (p_Ar_inRow d v0 h) fun x1 h1 => ?_
    refine gk_icmp_ge (pc := 15) 56 d_Su_extreme_15 rfl (fun _ => ?_) (fun _ => ?_)
    · refine gk_dload_n (pc := 56) 2 d_Su_extreme_56 rfl ?_
      exact gk_dret (pc := 57) rfl d_Su_extreme_57 rfl
    · refine gk_aload_n (pc := 18) 0 d_Su_extreme_18 rfl ?_
      refine gk_iload (pc := 19) 3 d_Su_extreme_19 rfl ?_
      refine gk_callV (pc := 21) (d := d) (w' := gv_D) (as := [.int v4]) (n := 1) 4 d_Su_extreme_21 rfl rfl rfl rfl (Nat.le_of_ble_eq_true rfl) tw_1079 tw_1080 tw_1081 tw_96 cw_Ar_ofRow hy_Ar_ofRow (Nat.le_of_ble_eq_true rfl) (p_Ar_ofRow d v0 v4 h1) fun x2 h2 => ?_
      refine gk_dstore (pc := 24) (L' := [(5, .double x2), (0, va_rf v0), (1, .int v1), (2, .double v2), (4, .int v4)]) d_Su_extreme_24 (Nat.le_of_ble_eq_true rfl) rfl ?_
      refine gk_iload_n (pc := 26) 2 d_Su_extreme_26 rfl ?_
      refine gk_if_eq (pc := 27) 40 d_Su_extreme_27 rfl (fun _ => ?_) (fun _ => ?_)
      · refine gk_dload (pc := 40) 0 d_Su_extreme_40 rfl ?_
        refine gk_dload_n (pc := 42) 3 d_Su_extreme_42 rfl ?_
        refine gk_dcmp (pc := 43) d_Su_extreme_43 ?_
        refine gk_if_ge (pc := 44) 50 d_Su_extreme_44 rfl (fun _ => ?_) (fun _ => ?_)
        · refine gk_weak [1, 2, 3, 4] (L' := [(0, va_rf v0), (1, .int v1), (2, .double v2), (4, .int v4)]) rfl ?_
          exact p_Su_extreme_b50 d (f_Su_extreme_b9 fu) q9 v0 v1 v2 v4 h2
        · refine gk_weak [1, 2, 4, 0] (L' := [(0, va_rf v0), (1, .int v1), (4, .int v4), (5, .double x2)]) rfl ?_
          exact p_Su_extreme_b47 d (f_Su_extreme_b9 fu) q9 v0 v1 v4 x2 h2
      · refine gk_dload (pc := 30) 0 d_Su_extreme_30 rfl ?_
        refine gk_dload_n (pc := 32) 3 d_Su_extreme_32 rfl ?_
        refine gk_dcmp (pc := 33) d_Su_extreme_33 ?_
        refine gk_if_le (pc := 34) 50 d_Su_extreme_34 rfl (fun _ => ?_) (fun _ => ?_)
        · refine gk_weak [1, 2, 3, 4] (L' := [(0, va_rf v0), (1, .int v1), (2, .double v2), (4, .int v4)]) rfl ?_
          exact p_Su_extreme_b50 d (f_Su_extreme_b9 fu) q9 v0 v1 v2 v4 h2
        · refine gk_goto (pc := 37) 47 d_Su_extreme_37 rfl ?_
          refine gk_weak [1, 2, 4, 0] (L' := [(0, va_rf v0), (1, .int v1), (4, .int v4), (5, .double x2)]) rfl ?_
          exact p_Su_extreme_b47 d (f_Su_extreme_b9 fu) q9 v0 v1 v4 x2 h2
theorem w_Su_extreme (d : Nat) (a0 : Option Nat) (a1 : Int32) (h : gk_H) : gk_P gw_D (d + 1) y_Su_extreme b_Su_extreme 7 (some .double) [] (f_Su_extreme a0 a1 h) 0 [(0, va_rf a0), (1, .int a1)] [] h := by
  unfold f_Su_extreme
  refine gk_aload_n (pc := 0) 0 d_Su_extreme_0 rfl ?_
  refine gk_iconst (pc := 1) (0 : Int32) d_Su_extreme_1 rfl ?_
  refine gk_callV (pc := 2) (d := d) (w' := gv_D) (as := [.int (0 : Int32)]) (n := 1) 4 d_Su_extreme_2 rfl rfl rfl rfl (Nat.le_of_ble_eq_true rfl) tw_1079 tw_1080 tw_1081 tw_96 cw_Ar_ofRow hy_Ar_ofRow (Nat.le_of_ble_eq_true rfl) (p_Ar_ofRow d a0 (0 : Int32) h) fun x1 h1 => ?_
  refine gk_dstore_n (pc := 5) (L' := [(2, .double x1), (0, va_rf a0), (1, .int a1)]) d_Su_extreme_5 (Nat.le_of_ble_eq_true rfl) rfl ?_
  refine gk_iconst (pc := 6) (1 : Int32) d_Su_extreme_6 rfl ?_
  refine gk_istore (pc := 7) (L' := [(4, .int (1 : Int32)), (2, .double x1), (0, va_rf a0), (1, .int a1)]) d_Su_extreme_7 (Nat.le_of_ble_eq_true rfl) rfl ?_
  refine gk_weak [2, 3, 1, 0] (L' := [(0, va_rf a0), (1, .int a1), (2, .double x1), (4, .int (1 : Int32))]) rfl ?_
  exact p_Su_extreme_b9 d gk_F a0 a1 x1 (1 : Int32) h1
theorem p_Su_extreme (d : Nat) (a0 : Option Nat) (a1 : Int32) (h : gk_H) : ∀ r h1, f_Su_extreme a0 a1 h = some (r, h1) → gk_M (d + 1) y_Su_extreme b_Su_extreme 7 (some .double) [va_rf a0, .int a1] h (.inl (gv_D r)) h1 :=
  fun r h1 e => gk_M_of2 (by decide +kernel) (by simp [lv_args, gk_cat_rf, gk_catI, gk_catJ, gk_catD, gv_V, gv_I, gv_J, gv_D, gv_R]) (by simp [lg_sl, gk_cat_rf, gk_catI, gk_catJ, gk_catD, gv_V, gv_I, gv_J, gv_D, gv_R]) (w_Su_extreme d a0 a1 h r h1 e)
theorem d_Su_product_0 : decode b_Su_product 0 = .ok (.aload_n 0, 1) := by decide +kernel
theorem d_Su_product_1 : decode b_Su_product 1 = .ok (.invokevirtual 61, 3) := by decide +kernel
theorem d_Su_product_4 : decode b_Su_product 4 = .ok (.ifCond .ne 7, 3) := by decide +kernel
theorem d_Su_product_7 : decode b_Su_product 7 = .ok (.dconst 0, 1) := by decide +kernel
theorem d_Su_product_8 : decode b_Su_product 8 = .ok (.goto 4, 3) := by decide +kernel
theorem d_Su_product_11 : decode b_Su_product 11 = .ok (.dconst 1, 1) := by decide +kernel
theorem d_Su_product_12 : decode b_Su_product 12 = .ok (.dstore_n 1, 1) := by decide +kernel
theorem d_Su_product_13 : decode b_Su_product 13 = .ok (.iconst 0, 1) := by decide +kernel
theorem d_Su_product_14 : decode b_Su_product 14 = .ok (.istore_n 3, 1) := by decide +kernel
theorem d_Su_product_15 : decode b_Su_product 15 = .ok (.iload_n 3, 1) := by decide +kernel
theorem d_Su_product_16 : decode b_Su_product 16 = .ok (.aload_n 0, 1) := by decide +kernel
theorem d_Su_product_17 : decode b_Su_product 17 = .ok (.invokevirtual 61, 3) := by decide +kernel
theorem d_Su_product_20 : decode b_Su_product 20 = .ok (.if_icmp .ge 24, 3) := by decide +kernel
theorem d_Su_product_23 : decode b_Su_product 23 = .ok (.dload_n 1, 1) := by decide +kernel
theorem d_Su_product_24 : decode b_Su_product 24 = .ok (.invokestatic 73, 3) := by decide +kernel
theorem d_Su_product_27 : decode b_Su_product 27 = .ok (.ifCond .eq 17, 3) := by decide +kernel
theorem d_Su_product_30 : decode b_Su_product 30 = .ok (.dload_n 1, 1) := by decide +kernel
theorem d_Su_product_31 : decode b_Su_product 31 = .ok (.aload_n 0, 1) := by decide +kernel
theorem d_Su_product_32 : decode b_Su_product 32 = .ok (.iload_n 3, 1) := by decide +kernel
theorem d_Su_product_33 : decode b_Su_product 33 = .ok (.invokevirtual 77, 3) := by decide +kernel
theorem d_Su_product_36 : decode b_Su_product 36 = .ok (.dmul, 1) := by decide +kernel
theorem d_Su_product_37 : decode b_Su_product 37 = .ok (.dstore_n 1, 1) := by decide +kernel
theorem d_Su_product_38 : decode b_Su_product 38 = .ok (.iinc 3 1, 3) := by decide +kernel
theorem d_Su_product_41 : decode b_Su_product 41 = .ok (.goto (-26), 3) := by decide +kernel
theorem d_Su_product_44 : decode b_Su_product 44 = .ok (.dload_n 1, 1) := by decide +kernel
theorem d_Su_product_45 : decode b_Su_product 45 = .ok (.dreturn, 1) := by decide +kernel
theorem p_Su_product_b44 (d : Nat)  (v1 : UInt64) (h : gk_H) : gk_P gw_D (d + 1) y_Su_product b_Su_product 4 (some .double) [] (f_Su_product_b44  v1 h) 44 [(1, .double v1)] [] h := by
  unfold f_Su_product_b44
  refine gk_dload_n (pc := 44) 0 d_Su_product_44 rfl ?_
  exact gk_dret (pc := 45) rfl d_Su_product_45 rfl
theorem p_Su_product_b15 (d : Nat)  : ∀ (fu : Nat) (v0 : Option Nat) (v1 : UInt64) (v3 : Int32) (h : gk_H), gk_P gw_D (d + 1) y_Su_product b_Su_product 4 (some .double) [] (f_Su_product_b15  fu v0 v1 v3 h) 15 [(0, va_rf v0), (1, .double v1), (3, .int v3)] [] h := by
  intro fu
  induction fu with
  | zero => intros; exact gk_none
  | succ fu q15 =>
    intro v0 v1 v3 h
    rw [f_Su_product_b15]
    refine gk_iload_n (pc := 15) 2 d_Su_product_15 rfl ?_
    refine gk_aload_n (pc := 16) 0 d_Su_product_16 rfl ?_
    refine gk_callV (pc := 17) (d := d) (w' := gv_I) (as := []) (n := 0) 4 d_Su_product_17 rfl rfl rfl rfl (Nat.le_of_ble_eq_true rfl) tw_1070 tw_1071 tw_1072 tw_96 cw_Ar_inRow hy_Ar_inRow (Nat.le_of_ble_eq_true rfl) (p_Ar_inRow d v0 h) fun x1 h1 => ?_
    refine gk_icmp_ge (pc := 20) 44 d_Su_product_20 rfl (fun _ => ?_) (fun _ => ?_)
    · refine gk_weak [1] (L' := [(1, .double v1)]) rfl ?_
      exact p_Su_product_b44 d v1 h1
    · refine gk_dload_n (pc := 23) 1 d_Su_product_23 rfl ?_
      refine gk_callS (pc := 24) (d := d) (w' := gv_I) (as := [.double v1]) (n := 1) d_Su_product_24 rfl rfl (Nat.le_of_ble_eq_true rfl) tw_1095 tw_320 tw_97 cw_Va_isFinite hy_Va_isFinite (Nat.le_of_ble_eq_true rfl) (p_Va_isFinite d v1 h1) fun x2 h2 => ?_
      refine gk_if_eq (pc := 27) 44 d_Su_product_27 rfl (fun _ => ?_) (fun _ => ?_)
      · refine gk_weak [1] (L' := [(1, .double v1)]) rfl ?_
        exact p_Su_product_b44 d v1 h2
      · refine gk_dload_n (pc := 30) 1 d_Su_product_30 rfl ?_
        refine gk_aload_n (pc := 31) 0 d_Su_product_31 rfl ?_
        refine gk_iload_n (pc := 32) 2 d_Su_product_32 rfl ?_
        refine gk_callV (pc := 33) (d := d) (w' := gv_D) (as := [.int v3]) (n := 1) 4 d_Su_product_33 rfl rfl rfl rfl (Nat.le_of_ble_eq_true rfl) tw_1079 tw_1080 tw_1081 tw_96 cw_Ar_ofRow hy_Ar_ofRow (Nat.le_of_ble_eq_true rfl) (p_Ar_ofRow d v0 v3 h2) fun x3 h3 => ?_
        refine gk_dmulN (pc := 36) d_Su_product_36 fun x4 => ?_
        refine gk_dstore_n (pc := 37) (L' := [(1, .double x4), (0, va_rf v0), (3, .int v3)]) d_Su_product_37 (Nat.le_of_ble_eq_true rfl) (by simp [gk_s1, gk_s2, gk_cat_rf, gk_catI, gk_catJ, gk_catD] <;> decide) ?_
        refine gk_iincN (pc := 38) 2 (1 : Int32) (L' := fun x5 => [(3, .int x5), (1, .double x4), (0, va_rf v0)]) d_Su_product_38 rfl rfl (Nat.le_of_ble_eq_true rfl) (fun _ => rfl) fun x5 => ?_
        refine gk_goto (pc := 41) 15 d_Su_product_41 rfl ?_
        refine gk_weak [2, 1, 0] (L' := [(0, va_rf v0), (1, .double x4), (3, .int x5)]) rfl ?_
        exact q15 v0 x4 x5 h3
theorem p_Su_product_b12 (d : Nat)  (v0 : Option Nat) (s0 : UInt64) (h : gk_H) : gk_P gw_D (d + 1) y_Su_product b_Su_product 4 (some .double) [] (f_Su_product_b12  v0 s0 h) 12 [(0, va_rf v0)] [.double s0] h := by
  unfold f_Su_product_b12
  refine gk_dstore_n (pc := 12) (L' := [(1, .double s0), (0, va_rf v0)]) d_Su_product_12 (Nat.le_of_ble_eq_true rfl) (by simp [gk_s1, gk_s2, gk_cat_rf, gk_catI, gk_catJ, gk_catD] <;> decide) ?_
  refine gk_iconst (pc := 13) (0 : Int32) d_Su_product_13 rfl ?_
  refine gk_istore_n (pc := 14) (L' := [(3, .int (0 : Int32)), (1, .double s0), (0, va_rf v0)]) d_Su_product_14 (Nat.le_of_ble_eq_true rfl) rfl ?_
  refine gk_weak [2, 1, 0] (L' := [(0, va_rf v0), (1, .double s0), (3, .int (0 : Int32))]) rfl ?_
  exact p_Su_product_b15 d gk_F v0 s0 (0 : Int32) h
theorem w_Su_product (d : Nat) (a0 : Option Nat) (h : gk_H) : gk_P gw_D (d + 1) y_Su_product b_Su_product 4 (some .double) [] (f_Su_product a0 h) 0 [(0, va_rf a0)] [] h := by
  unfold f_Su_product
  refine gk_aload_n (pc := 0) 0 d_Su_product_0 rfl ?_
  refine gk_callV (pc := 1) (d := d) (w' := gv_I) (as := []) (n := 0) 4 d_Su_product_1 rfl rfl rfl rfl (Nat.le_of_ble_eq_true rfl) tw_1070 tw_1071 tw_1072 tw_96 cw_Ar_inRow hy_Ar_inRow (Nat.le_of_ble_eq_true rfl) (p_Ar_inRow d a0 h) fun x1 h1 => ?_
  refine gk_if_ne (pc := 4) 11 d_Su_product_4 rfl (fun _ => ?_) (fun _ => ?_)
  · refine gk_dconst0 (pc := 7) d_Su_product_7 ?_
    refine gk_goto (pc := 8) 12 d_Su_product_8 rfl ?_
    exact p_Su_product_b12 d a0 (0x0000000000000000) h1
  · refine gk_dconst1 (pc := 11) d_Su_product_11 ?_
    exact p_Su_product_b12 d a0 (0x3ff0000000000000) h1
theorem p_Su_product (d : Nat) (a0 : Option Nat) (h : gk_H) : ∀ r h1, f_Su_product a0 h = some (r, h1) → gk_M (d + 1) y_Su_product b_Su_product 4 (some .double) [va_rf a0] h (.inl (gv_D r)) h1 :=
  fun r h1 e => gk_M_of2 (by decide +kernel) (by simp [lv_args, gk_cat_rf, gk_catI, gk_catJ, gk_catD, gv_V, gv_I, gv_J, gv_D, gv_R]) (by simp [lg_sl, gk_cat_rf, gk_catI, gk_catJ, gk_catD, gv_V, gv_I, gv_J, gv_D, gv_R]) (w_Su_product d a0 h r h1 e)
