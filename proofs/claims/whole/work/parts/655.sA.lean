theorem d_Lo_section_0 : decode b_Lo_section 0 = .ok (.iconst 1, 1) := by decide +kernel
theorem d_Lo_section_1 : decode b_Lo_section 1 = .ok (.iload_n 3, 1) := by decide +kernel
theorem d_Lo_section_2 : decode b_Lo_section 2 = .ok (.invokestatic 52, 3) := by decide +kernel
theorem d_Lo_section_5 : decode b_Lo_section 5 = .ok (.istore 6, 2) := by decide +kernel
theorem d_Lo_section_7 : decode b_Lo_section 7 = .ok (.iconst 1, 1) := by decide +kernel
theorem d_Lo_section_8 : decode b_Lo_section 8 = .ok (.iload 4, 2) := by decide +kernel
theorem d_Lo_section_10 : decode b_Lo_section 10 = .ok (.invokestatic 52, 3) := by decide +kernel
theorem d_Lo_section_13 : decode b_Lo_section 13 = .ok (.istore 7, 2) := by decide +kernel
theorem d_Lo_section_15 : decode b_Lo_section 15 = .ok (.iload 6, 2) := by decide +kernel
theorem d_Lo_section_17 : decode b_Lo_section 17 = .ok (.iload 7, 2) := by decide +kernel
theorem d_Lo_section_19 : decode b_Lo_section 19 = .ok (.imul, 1) := by decide +kernel
theorem d_Lo_section_20 : decode b_Lo_section 20 = .ok (.anewarray 16, 3) := by decide +kernel
theorem d_Lo_section_23 : decode b_Lo_section 23 = .ok (.astore 8, 2) := by decide +kernel
theorem d_Lo_section_25 : decode b_Lo_section 25 = .ok (.iconst 0, 1) := by decide +kernel
theorem d_Lo_section_26 : decode b_Lo_section 26 = .ok (.istore 9, 2) := by decide +kernel
theorem d_Lo_section_28 : decode b_Lo_section 28 = .ok (.iload 9, 2) := by decide +kernel
theorem d_Lo_section_30 : decode b_Lo_section 30 = .ok (.aload 8, 2) := by decide +kernel
theorem d_Lo_section_32 : decode b_Lo_section 32 = .ok (.arraylength, 1) := by decide +kernel
theorem d_Lo_section_33 : decode b_Lo_section 33 = .ok (.if_icmp .ge 66, 3) := by decide +kernel
theorem d_Lo_section_36 : decode b_Lo_section 36 = .ok (.iload 5, 2) := by decide +kernel
theorem d_Lo_section_38 : decode b_Lo_section 38 = .ok (.ifCond .eq 11, 3) := by decide +kernel
theorem d_Lo_section_41 : decode b_Lo_section 41 = .ok (.iload 9, 2) := by decide +kernel
theorem d_Lo_section_43 : decode b_Lo_section 43 = .ok (.iload 6, 2) := by decide +kernel
theorem d_Lo_section_45 : decode b_Lo_section 45 = .ok (.irem, 1) := by decide +kernel
theorem d_Lo_section_46 : decode b_Lo_section 46 = .ok (.goto 8, 3) := by decide +kernel
theorem d_Lo_section_49 : decode b_Lo_section 49 = .ok (.iload 9, 2) := by decide +kernel
theorem d_Lo_section_51 : decode b_Lo_section 51 = .ok (.iload 7, 2) := by decide +kernel
theorem d_Lo_section_53 : decode b_Lo_section 53 = .ok (.idiv, 1) := by decide +kernel
theorem d_Lo_section_54 : decode b_Lo_section 54 = .ok (.istore 10, 2) := by decide +kernel
theorem d_Lo_section_56 : decode b_Lo_section 56 = .ok (.iload 5, 2) := by decide +kernel
theorem d_Lo_section_58 : decode b_Lo_section 58 = .ok (.ifCond .eq 11, 3) := by decide +kernel
theorem d_Lo_section_61 : decode b_Lo_section 61 = .ok (.iload 9, 2) := by decide +kernel
theorem d_Lo_section_63 : decode b_Lo_section 63 = .ok (.iload 6, 2) := by decide +kernel
theorem d_Lo_section_65 : decode b_Lo_section 65 = .ok (.idiv, 1) := by decide +kernel
theorem d_Lo_section_66 : decode b_Lo_section 66 = .ok (.goto 8, 3) := by decide +kernel
theorem d_Lo_section_69 : decode b_Lo_section 69 = .ok (.iload 9, 2) := by decide +kernel
theorem d_Lo_section_71 : decode b_Lo_section 71 = .ok (.iload 7, 2) := by decide +kernel
theorem d_Lo_section_73 : decode b_Lo_section 73 = .ok (.irem, 1) := by decide +kernel
theorem d_Lo_section_74 : decode b_Lo_section 74 = .ok (.istore 11, 2) := by decide +kernel
theorem d_Lo_section_76 : decode b_Lo_section 76 = .ok (.aload 8, 2) := by decide +kernel
theorem d_Lo_section_78 : decode b_Lo_section 78 = .ok (.iload 9, 2) := by decide +kernel
theorem d_Lo_section_80 : decode b_Lo_section 80 = .ok (.aload_n 0, 1) := by decide +kernel
theorem d_Lo_section_81 : decode b_Lo_section 81 = .ok (.iload_n 1, 1) := by decide +kernel
theorem d_Lo_section_82 : decode b_Lo_section 82 = .ok (.iload 10, 2) := by decide +kernel
theorem d_Lo_section_84 : decode b_Lo_section 84 = .ok (.iadd, 1) := by decide +kernel
theorem d_Lo_section_85 : decode b_Lo_section 85 = .ok (.iload_n 2, 1) := by decide +kernel
theorem d_Lo_section_86 : decode b_Lo_section 86 = .ok (.iload 11, 2) := by decide +kernel
theorem d_Lo_section_88 : decode b_Lo_section 88 = .ok (.iadd, 1) := by decide +kernel
theorem d_Lo_section_89 : decode b_Lo_section 89 = .ok (.invokevirtual 58, 3) := by decide +kernel
theorem d_Lo_section_92 : decode b_Lo_section 92 = .ok (.aastore, 1) := by decide +kernel
theorem d_Lo_section_93 : decode b_Lo_section 93 = .ok (.iinc 9 1, 3) := by decide +kernel
theorem d_Lo_section_96 : decode b_Lo_section 96 = .ok (.goto (-68), 3) := by decide +kernel
theorem d_Lo_section_99 : decode b_Lo_section 99 = .ok (.iload 5, 2) := by decide +kernel
theorem d_Lo_section_101 : decode b_Lo_section 101 = .ok (.ifCond .eq 8, 3) := by decide +kernel
theorem d_Lo_section_104 : decode b_Lo_section 104 = .ok (.iload 7, 2) := by decide +kernel
theorem d_Lo_section_106 : decode b_Lo_section 106 = .ok (.goto 5, 3) := by decide +kernel
theorem d_Lo_section_109 : decode b_Lo_section 109 = .ok (.iload 6, 2) := by decide +kernel
theorem d_Lo_section_111 : decode b_Lo_section 111 = .ok (.iload 5, 2) := by decide +kernel
theorem d_Lo_section_113 : decode b_Lo_section 113 = .ok (.ifCond .eq 8, 3) := by decide +kernel
theorem d_Lo_section_116 : decode b_Lo_section 116 = .ok (.iload 6, 2) := by decide +kernel
theorem d_Lo_section_118 : decode b_Lo_section 118 = .ok (.goto 5, 3) := by decide +kernel
theorem d_Lo_section_121 : decode b_Lo_section 121 = .ok (.iload 7, 2) := by decide +kernel
theorem d_Lo_section_123 : decode b_Lo_section 123 = .ok (.aload 8, 2) := by decide +kernel
theorem d_Lo_section_125 : decode b_Lo_section 125 = .ok (.invokestatic 62, 3) := by decide +kernel
theorem d_Lo_section_128 : decode b_Lo_section 128 = .ok (.areturn, 1) := by decide +kernel
theorem p_Lo_section_b123 (d : Nat)  (v8 : Option Nat) (s0 : Int32) (s1 : Int32) (h : gk_H) : gk_P gw_R (d + 3) y_Lo_section b_Lo_section 12 (some (.object "ValueAlgebra$Value")) [] (f_Lo_section_b123  v8 s0 s1 h) 123 [(8, va_rf v8)] [.int s1, .int s0] h := by
  unfold f_Lo_section_b123
  refine gk_aload (pc := 123) 0 d_Lo_section_123 rfl ?_
  refine gk_callS (pc := 125) (d := (d + 2)) (w' := gv_R) (as := [.int s0, .int s1, va_rf v8]) (n := 3) d_Lo_section_125 rfl rfl (Nat.le_of_ble_eq_true rfl) tw_1464 tw_754 tw_97 cw_Va_ofCells hy_Va_ofCells (Nat.le_of_ble_eq_true rfl) (p_Va_ofCells d s0 s1 v8 h) fun x1 h1 => ?_
  exact gk_aret (pc := 128) rfl d_Lo_section_128 rfl (Or.inl ⟨_, rfl⟩)
theorem p_Lo_section_b111 (d : Nat)  (v5 : Int32) (v6 : Int32) (v7 : Int32) (v8 : Option Nat) (s0 : Int32) (h : gk_H) : gk_P gw_R (d + 3) y_Lo_section b_Lo_section 12 (some (.object "ValueAlgebra$Value")) [] (f_Lo_section_b111  v5 v6 v7 v8 s0 h) 111 [(5, .int v5), (6, .int v6), (7, .int v7), (8, va_rf v8)] [.int s0] h := by
  unfold f_Lo_section_b111
  refine gk_iload (pc := 111) 0 d_Lo_section_111 rfl ?_
  refine gk_if_eq (pc := 113) 121 d_Lo_section_113 rfl (fun _ => ?_) (fun _ => ?_)
  · refine gk_iload (pc := 121) 2 d_Lo_section_121 rfl ?_
    refine gk_weak [3] (L' := [(8, va_rf v8)]) rfl ?_
    exact p_Lo_section_b123 d v8 s0 v7 h
  · refine gk_iload (pc := 116) 1 d_Lo_section_116 rfl ?_
    refine gk_goto (pc := 118) 123 d_Lo_section_118 rfl ?_
    refine gk_weak [3] (L' := [(8, va_rf v8)]) rfl ?_
    exact p_Lo_section_b123 d v8 s0 v6 h
theorem p_Lo_section_b74 (d : Nat) (b28 : Option Nat → Int32 → Int32 → Int32 → Int32 → Int32 → Option Nat → Int32 → gk_H → Option ((Option Nat) × gk_H)) (q28 : ∀ (v0 : Option Nat) (v1 : Int32) (v2 : Int32) (v5 : Int32) (v6 : Int32) (v7 : Int32) (v8 : Option Nat) (v9 : Int32) (h : gk_H), gk_P gw_R (d + 3) y_Lo_section b_Lo_section 12 (some (.object "ValueAlgebra$Value")) [] (b28 v0 v1 v2 v5 v6 v7 v8 v9 h) 28 [(0, va_rf v0), (1, .int v1), (2, .int v2), (5, .int v5), (6, .int v6), (7, .int v7), (8, va_rf v8), (9, .int v9)] [] h) (v0 : Option Nat) (v1 : Int32) (v2 : Int32) (v5 : Int32) (v6 : Int32) (v7 : Int32) (v8 : Option Nat) (v9 : Int32) (v10 : Int32) (s0 : Int32) (h : gk_H) : gk_P gw_R (d + 3) y_Lo_section b_Lo_section 12 (some (.object "ValueAlgebra$Value")) [] (f_Lo_section_b74 b28 v0 v1 v2 v5 v6 v7 v8 v9 v10 s0 h) 74 [(0, va_rf v0), (1, .int v1), (2, .int v2), (5, .int v5), (6, .int v6), (7, .int v7), (8, va_rf v8), (9, .int v9), (10, .int v10)] [.int s0] h := by
  unfold f_Lo_section_b74
  refine gk_istore (pc := 74) (L' := [(11, .int s0), (0, va_rf v0), (1, .int v1), (2, .int v2), (5, .int v5), (6, .int v6), (7, .int v7), (8, va_rf v8), (9, .int v9), (10, .int v10)]) d_Lo_section_74 (Nat.le_of_ble_eq_true rfl) rfl ?_
  refine gk_aload (pc := 76) 7 d_Lo_section_76 rfl ?_
  refine gk_iload (pc := 78) 8 d_Lo_section_78 rfl ?_
  refine gk_aload_n (pc := 80) 1 d_Lo_section_80 rfl ?_
  refine gk_iload_n (pc := 81) 2 d_Lo_section_81 rfl ?_
  refine gk_iload (pc := 82) 9 d_Lo_section_82 rfl ?_
  refine gk_iadd (pc := 84) d_Lo_section_84 ?_
  refine gk_iload_n (pc := 85) 3 d_Lo_section_85 rfl ?_
  refine gk_iload (pc := 86) 0 d_Lo_section_86 rfl ?_
  refine gk_iadd (pc := 88) d_Lo_section_88 ?_
  refine gk_callV (pc := 89) (d := (d + 2)) (w' := gv_R) (as := [.int (v1 + v10), .int (v2 + s0)]) (n := 2) 2 d_Lo_section_89 rfl rfl rfl rfl (by simp [gk_cat_rf, gk_catI, gk_catJ, gk_catD, gv_V, gv_I, gv_J, gv_D, gv_R]) tw_1454 tw_1455 tw_1456 tw_97 cw_Va_cellIn hy_Va_cellIn (Nat.le_of_ble_eq_true rfl) (p_Va_cellIn (d + 1) v0 (v1 + v10) (v2 + s0) h) fun x1 h1 => ?_
  refine gk_aast (pc := 92) d_Lo_section_92 fun h2 => ?_
  refine gk_iincN (pc := 93) 8 (1 : Int32) (L' := fun x2 => [(9, .int x2), (11, .int s0), (0, va_rf v0), (1, .int v1), (2, .int v2), (5, .int v5), (6, .int v6), (7, .int v7), (8, va_rf v8), (10, .int v10)]) d_Lo_section_93 rfl rfl (Nat.le_of_ble_eq_true rfl) (fun _ => by simp [gk_s1, gk_cat_rf, gk_catI, gk_catJ, gk_catD] <;> decide) fun x2 => ?_
  refine gk_goto (pc := 96) 28 d_Lo_section_96 rfl ?_
  refine gk_weak [2, 3, 4, 5, 6, 7, 8, 0] (L' := [(0, va_rf v0), (1, .int v1), (2, .int v2), (5, .int v5), (6, .int v6), (7, .int v7), (8, va_rf v8), (9, .int x2)]) rfl ?_
  exact q28 v0 v1 v2 v5 v6 v7 v8 x2 h2
theorem p_Lo_section_b54 (d : Nat) (b28 : Option Nat → Int32 → Int32 → Int32 → Int32 → Int32 → Option Nat → Int32 → gk_H → Option ((Option Nat) × gk_H)) (q28 : ∀ (v0 : Option Nat) (v1 : Int32) (v2 : Int32) (v5 : Int32) (v6 : Int32) (v7 : Int32) (v8 : Option Nat) (v9 : Int32) (h : gk_H), gk_P gw_R (d + 3) y_Lo_section b_Lo_section 12 (some (.object "ValueAlgebra$Value")) [] (b28 v0 v1 v2 v5 v6 v7 v8 v9 h) 28 [(0, va_rf v0), (1, .int v1), (2, .int v2), (5, .int v5), (6, .int v6), (7, .int v7), (8, va_rf v8), (9, .int v9)] [] h) (v0 : Option Nat) (v1 : Int32) (v2 : Int32) (v5 : Int32) (v6 : Int32) (v7 : Int32) (v8 : Option Nat) (v9 : Int32) (s0 : Int32) (h : gk_H) : gk_P gw_R (d + 3) y_Lo_section b_Lo_section 12 (some (.object "ValueAlgebra$Value")) [] (f_Lo_section_b54 b28 v0 v1 v2 v5 v6 v7 v8 v9 s0 h) 54 [(0, va_rf v0), (1, .int v1), (2, .int v2), (5, .int v5), (6, .int v6), (7, .int v7), (8, va_rf v8), (9, .int v9)] [.int s0] h := by
  unfold f_Lo_section_b54
  refine gk_istore (pc := 54) (L' := [(10, .int s0), (0, va_rf v0), (1, .int v1), (2, .int v2), (5, .int v5), (6, .int v6), (7, .int v7), (8, va_rf v8), (9, .int v9)]) d_Lo_section_54 (Nat.le_of_ble_eq_true rfl) rfl ?_
  refine gk_iload (pc := 56) 4 d_Lo_section_56 rfl ?_
  refine gk_if_eq (pc := 58) 69 d_Lo_section_58 rfl (fun _ => ?_) (fun _ => ?_)
  · refine gk_iload (pc := 69) 8 d_Lo_section_69 rfl ?_
    refine gk_iload (pc := 71) 6 d_Lo_section_71 rfl ?_
    refine gk_ite (fun _ => gk_none) fun hz73 => ?_
    refine gk_irem (pc := 73) hz73 d_Lo_section_73 ?_
    refine gk_weak [1, 2, 3, 4, 5, 6, 7, 8, 0] (L' := [(0, va_rf v0), (1, .int v1), (2, .int v2), (5, .int v5), (6, .int v6), (7, .int v7), (8, va_rf v8), (9, .int v9), (10, .int s0)]) rfl ?_
    exact p_Lo_section_b74 d b28 q28 v0 v1 v2 v5 v6 v7 v8 v9 s0 (v9 - v9 / v7 * v7) h
  · refine gk_iload (pc := 61) 8 d_Lo_section_61 rfl ?_
    refine gk_iload (pc := 63) 5 d_Lo_section_63 rfl ?_
    refine gk_ite (fun _ => gk_none) fun hz65 => ?_
    refine gk_idiv (pc := 65) hz65 d_Lo_section_65 ?_
    refine gk_goto (pc := 66) 74 d_Lo_section_66 rfl ?_
    refine gk_weak [1, 2, 3, 4, 5, 6, 7, 8, 0] (L' := [(0, va_rf v0), (1, .int v1), (2, .int v2), (5, .int v5), (6, .int v6), (7, .int v7), (8, va_rf v8), (9, .int v9), (10, .int s0)]) rfl ?_
    exact p_Lo_section_b74 d b28 q28 v0 v1 v2 v5 v6 v7 v8 v9 s0 (v9 / v6) h
theorem p_Lo_section_b28 (d : Nat)  : ∀ (fu : Nat) (v0 : Option Nat) (v1 : Int32) (v2 : Int32) (v5 : Int32) (v6 : Int32) (v7 : Int32) (v8 : Option Nat) (v9 : Int32) (h : gk_H), gk_P gw_R (d + 3) y_Lo_section b_Lo_section 12 (some (.object "ValueAlgebra$Value")) [] (f_Lo_section_b28  fu v0 v1 v2 v5 v6 v7 v8 v9 h) 28 [(0, va_rf v0), (1, .int v1), (2, .int v2), (5, .int v5), (6, .int v6), (7, .int v7), (8, va_rf v8), (9, .int v9)] [] h := by
  intro fu
  induction fu with
  | zero => intros; exact gk_none
  | succ fu q28 =>
    intro v0 v1 v2 v5 v6 v7 v8 v9 h
    rw [f_Lo_section_b28]
    refine gk_iload (pc := 28) 7 d_Lo_section_28 rfl ?_
    refine gk_aload (pc := 30) 6 d_Lo_section_30 rfl ?_
    refine gk_alen (pc := 32) d_Lo_section_32 fun x1 => ?_
    refine gk_icmp_ge (pc := 33) 99 d_Lo_section_33 rfl (fun _ => ?_) (fun _ => ?_)
    · refine gk_iload (pc := 99) 3 d_Lo_section_99 rfl ?_
      refine gk_if_eq (pc := 101) 109 d_Lo_section_101 rfl (fun _ => ?_) (fun _ => ?_)
      · refine gk_iload (pc := 109) 4 d_Lo_section_109 rfl ?_
        refine gk_weak [3, 4, 5, 6] (L' := [(5, .int v5), (6, .int v6), (7, .int v7), (8, va_rf v8)]) rfl ?_
        exact p_Lo_section_b111 d v5 v6 v7 v8 v6 h
      · refine gk_iload (pc := 104) 5 d_Lo_section_104 rfl ?_
        refine gk_goto (pc := 106) 111 d_Lo_section_106 rfl ?_
        refine gk_weak [3, 4, 5, 6] (L' := [(5, .int v5), (6, .int v6), (7, .int v7), (8, va_rf v8)]) rfl ?_
        exact p_Lo_section_b111 d v5 v6 v7 v8 v7 h
    · refine gk_iload (pc := 36) 3 d_Lo_section_36 rfl ?_
      refine gk_if_eq (pc := 38) 49 d_Lo_section_38 rfl (fun _ => ?_) (fun _ => ?_)
      · refine gk_iload (pc := 49) 7 d_Lo_section_49 rfl ?_
        refine gk_iload (pc := 51) 5 d_Lo_section_51 rfl ?_
        refine gk_ite (fun _ => gk_none) fun hz53 => ?_
        refine gk_idiv (pc := 53) hz53 d_Lo_section_53 ?_
        exact p_Lo_section_b54 d (f_Lo_section_b28 fu) q28 v0 v1 v2 v5 v6 v7 v8 v9 (v9 / v7) h
      · refine gk_iload (pc := 41) 7 d_Lo_section_41 rfl ?_
        refine gk_iload (pc := 43) 4 d_Lo_section_43 rfl ?_
        refine gk_ite (fun _ => gk_none) fun hz45 => ?_
        refine gk_irem (pc := 45) hz45 d_Lo_section_45 ?_
        refine gk_goto (pc := 46) 54 d_Lo_section_46 rfl ?_
        exact p_Lo_section_b54 d (f_Lo_section_b28 fu) q28 v0 v1 v2 v5 v6 v7 v8 v9 (v9 - v9 / v6 * v6) h
theorem w_Lo_section (d : Nat) (a0 : Option Nat) (a1 : Int32) (a2 : Int32) (a3 : Int32) (a4 : Int32) (a5 : Int32) (h : gk_H) : gk_P gw_R (d + 3) y_Lo_section b_Lo_section 12 (some (.object "ValueAlgebra$Value")) [] (f_Lo_section a0 a1 a2 a3 a4 a5 h) 0 [(0, va_rf a0), (1, .int a1), (2, .int a2), (3, .int a3), (4, .int a4), (5, .int a5)] [] h := by
  unfold f_Lo_section
  refine gk_iconst (pc := 0) (1 : Int32) d_Lo_section_0 rfl ?_
  refine gk_iload_n (pc := 1) 3 d_Lo_section_1 rfl ?_
  refine gk_callS (pc := 2) (d := (d + 2)) (w' := gv_I) (as := [.int (1 : Int32), .int a3]) (n := 2) d_Lo_section_2 rfl rfl (Nat.le_of_ble_eq_true rfl) tw_1462 tw_448 tw_106 cw_Ma_max_II hy_Ma_max_II (Nat.le_of_ble_eq_true rfl) (p_Ma_max_II (d + 2) (1 : Int32) a3 h) fun x1 h1 => ?_
  refine gk_istore (pc := 5) (L' := [(6, .int x1), (0, va_rf a0), (1, .int a1), (2, .int a2), (3, .int a3), (4, .int a4), (5, .int a5)]) d_Lo_section_5 (Nat.le_of_ble_eq_true rfl) rfl ?_
  refine gk_iconst (pc := 7) (1 : Int32) d_Lo_section_7 rfl ?_
  refine gk_iload (pc := 8) 5 d_Lo_section_8 rfl ?_
  refine gk_callS (pc := 10) (d := (d + 2)) (w' := gv_I) (as := [.int (1 : Int32), .int a4]) (n := 2) d_Lo_section_10 rfl rfl (Nat.le_of_ble_eq_true rfl) tw_1462 tw_448 tw_106 cw_Ma_max_II hy_Ma_max_II (Nat.le_of_ble_eq_true rfl) (p_Ma_max_II (d + 2) (1 : Int32) a4 h1) fun x2 h2 => ?_
  refine gk_istore (pc := 13) (L' := [(7, .int x2), (6, .int x1), (0, va_rf a0), (1, .int a1), (2, .int a2), (3, .int a3), (4, .int a4), (5, .int a5)]) d_Lo_section_13 (Nat.le_of_ble_eq_true rfl) rfl ?_
  refine gk_iload (pc := 15) 1 d_Lo_section_15 rfl ?_
  refine gk_iload (pc := 17) 0 d_Lo_section_17 rfl ?_
  refine gk_imul (pc := 19) d_Lo_section_19 ?_
  refine gk_newQ (pc := 20) d_Lo_section_20 tw_1463 fun x3 h3 => ?_
  refine gk_astore (pc := 23) (L' := [(8, va_rf x3), (7, .int x2), (6, .int x1), (0, va_rf a0), (1, .int a1), (2, .int a2), (3, .int a3), (4, .int a4), (5, .int a5)]) d_Lo_section_23 (Nat.le_of_ble_eq_true rfl) rfl ?_
  refine gk_iconst (pc := 25) (0 : Int32) d_Lo_section_25 rfl ?_
  refine gk_istore (pc := 26) (L' := [(9, .int (0 : Int32)), (8, va_rf x3), (7, .int x2), (6, .int x1), (0, va_rf a0), (1, .int a1), (2, .int a2), (3, .int a3), (4, .int a4), (5, .int a5)]) d_Lo_section_26 (Nat.le_of_ble_eq_true rfl) (by simp [gk_s1, gk_s2, gk_cat_rf, gk_catI, gk_catJ, gk_catD] <;> decide) ?_
  refine gk_weak [4, 5, 6, 9, 3, 2, 1, 0] (L' := [(0, va_rf a0), (1, .int a1), (2, .int a2), (5, .int a5), (6, .int x1), (7, .int x2), (8, va_rf x3), (9, .int (0 : Int32))]) rfl ?_
  exact p_Lo_section_b28 d gk_F a0 a1 a2 a5 x1 x2 x3 (0 : Int32) h3
theorem p_Lo_section (d : Nat) (a0 : Option Nat) (a1 : Int32) (a2 : Int32) (a3 : Int32) (a4 : Int32) (a5 : Int32) (h : gk_H) : ∀ r h1, f_Lo_section a0 a1 a2 a3 a4 a5 h = some (r, h1) → gk_M (d + 3) y_Lo_section b_Lo_section 12 (some (.object "ValueAlgebra$Value")) [va_rf a0, .int a1, .int a2, .int a3, .int a4, .int a5] h (.inl (gv_R r)) h1 :=
  fun r h1 e => gk_M_of2 (by decide +kernel) (by simp [lv_args, gk_cat_rf, gk_catI, gk_catJ, gk_catD, gv_V, gv_I, gv_J, gv_D, gv_R]) (by simp [lg_sl, gk_cat_rf, gk_catI, gk_catJ, gk_catD, gv_V, gv_I, gv_J, gv_D, gv_R]) (w_Lo_section d a0 a1 a2 a3 a4 a5 h r h1 e)
theorem d_Lo_transposed_0 : decode b_Lo_transposed 0 = .ok (.aload_n 0, 1) := by decide +kernel
theorem d_Lo_transposed_1 : decode b_Lo_transposed 1 = .ok (.iconst 0, 1) := by decide +kernel
theorem d_Lo_transposed_2 : decode b_Lo_transposed 2 = .ok (.iconst 0, 1) := by decide +kernel
theorem d_Lo_transposed_3 : decode b_Lo_transposed 3 = .ok (.aload_n 0, 1) := by decide +kernel
theorem d_Lo_transposed_4 : decode b_Lo_transposed 4 = .ok (.getfield 15, 3) := by decide +kernel
theorem d_Lo_transposed_7 : decode b_Lo_transposed 7 = .ok (.aload_n 0, 1) := by decide +kernel
theorem d_Lo_transposed_8 : decode b_Lo_transposed 8 = .ok (.getfield 25, 3) := by decide +kernel
theorem d_Lo_transposed_11 : decode b_Lo_transposed 11 = .ok (.iconst 1, 1) := by decide +kernel
theorem d_Lo_transposed_12 : decode b_Lo_transposed 12 = .ok (.invokestatic 48, 3) := by decide +kernel
theorem d_Lo_transposed_15 : decode b_Lo_transposed 15 = .ok (.areturn, 1) := by decide +kernel
theorem w_Lo_transposed (d : Nat) (a0 : Option Nat) (h : gk_H) : gk_P gw_R (d + 4) y_Lo_transposed b_Lo_transposed 1 (some (.object "ValueAlgebra$Value")) [] (f_Lo_transposed a0 h) 0 [(0, va_rf a0)] [] h := by
  unfold f_Lo_transposed
  refine gk_aload_n (pc := 0) 0 d_Lo_transposed_0 rfl ?_
  refine gk_iconst (pc := 1) (0 : Int32) d_Lo_transposed_1 rfl ?_
  refine gk_iconst (pc := 2) (0 : Int32) d_Lo_transposed_2 rfl ?_
  refine gk_aload_n (pc := 3) 0 d_Lo_transposed_3 rfl ?_
  refine gk_getI (pc := 4) 2 4 d_Lo_transposed_4 rfl (Nat.le_of_ble_eq_true rfl) tw_213 fun x1 => ?_
  refine gk_aload_n (pc := 7) 0 d_Lo_transposed_7 rfl ?_
  refine gk_getI (pc := 8) 2 5 d_Lo_transposed_8 rfl (Nat.le_of_ble_eq_true rfl) tw_216 fun x2 => ?_
  refine gk_iconst (pc := 11) (1 : Int32) d_Lo_transposed_11 rfl ?_
  refine gk_callS (pc := 12) (d := (d + 3)) (w' := gv_R) (as := [va_rf a0, .int (0 : Int32), .int (0 : Int32), .int x1, .int x2, .int (1 : Int32)]) (n := 6) d_Lo_transposed_12 rfl rfl (Nat.le_of_ble_eq_true rfl) tw_1459 tw_1460 tw_123 cw_Lo_section hy_Lo_section (Nat.le_of_ble_eq_true rfl) (p_Lo_section d a0 (0 : Int32) (0 : Int32) x1 x2 (1 : Int32) h) fun x3 h1 => ?_
  exact gk_aret (pc := 15) rfl d_Lo_transposed_15 rfl (Or.inl ⟨_, rfl⟩)
theorem p_Lo_transposed (d : Nat) (a0 : Option Nat) (h : gk_H) : ∀ r h1, f_Lo_transposed a0 h = some (r, h1) → gk_M (d + 4) y_Lo_transposed b_Lo_transposed 1 (some (.object "ValueAlgebra$Value")) [va_rf a0] h (.inl (gv_R r)) h1 :=
  fun r h1 e => gk_M_of2 (by decide +kernel) (by simp [lv_args, gk_cat_rf, gk_catI, gk_catJ, gk_catD, gv_V, gv_I, gv_J, gv_D, gv_R]) (by simp [lg_sl, gk_cat_rf, gk_catI, gk_catJ, gk_catD, gv_V, gv_I, gv_J, gv_D, gv_R]) (w_Lo_transposed d a0 h r h1 e)
theorem d_Lo_wanted_0 : decode b_Lo_wanted 0 = .ok (.aload_n 0, 1) := by decide +kernel
theorem d_Lo_wanted_1 : decode b_Lo_wanted 1 = .ok (.iconst 0, 1) := by decide +kernel
theorem d_Lo_wanted_2 : decode b_Lo_wanted 2 = .ok (.invokevirtual 78, 3) := by decide +kernel
theorem d_Lo_wanted_5 : decode b_Lo_wanted 5 = .ok (.astore_n 1, 1) := by decide +kernel
theorem d_Lo_wanted_6 : decode b_Lo_wanted 6 = .ok (.aload_n 1, 1) := by decide +kernel
theorem d_Lo_wanted_7 : decode b_Lo_wanted 7 = .ok (.getfield 81, 3) := by decide +kernel
theorem d_Lo_wanted_10 : decode b_Lo_wanted 10 = .ok (.ifCond .ne 10, 3) := by decide +kernel
theorem d_Lo_wanted_13 : decode b_Lo_wanted 13 = .ok (.dconst 0, 1) := by decide +kernel
theorem d_Lo_wanted_14 : decode b_Lo_wanted 14 = .ok (.invokestatic 21, 3) := by decide +kernel
theorem d_Lo_wanted_17 : decode b_Lo_wanted 17 = .ok (.goto 4, 3) := by decide +kernel
theorem d_Lo_wanted_20 : decode b_Lo_wanted 20 = .ok (.aload_n 1, 1) := by decide +kernel
theorem d_Lo_wanted_21 : decode b_Lo_wanted 21 = .ok (.areturn, 1) := by decide +kernel
theorem p_Lo_wanted_b21 (d : Nat)  (s0 : Option Nat) (h : gk_H) : gk_P gw_R (d + 3) y_Lo_wanted b_Lo_wanted 2 (some (.object "ValueAlgebra$Value")) [] (f_Lo_wanted_b21  s0 h) 21 [] [va_rf s0] h := by
  unfold f_Lo_wanted_b21
  exact gk_aret (pc := 21) rfl d_Lo_wanted_21 rfl (Or.inl ⟨_, rfl⟩)
theorem w_Lo_wanted (d : Nat) (a0 : Option Nat) (h : gk_H) : gk_P gw_R (d + 3) y_Lo_wanted b_Lo_wanted 2 (some (.object "ValueAlgebra$Value")) [] (f_Lo_wanted a0 h) 0 [(0, va_rf a0)] [] h := by
  unfold f_Lo_wanted
  refine gk_aload_n (pc := 0) 0 d_Lo_wanted_0 rfl ?_
  refine gk_iconst (pc := 1) (0 : Int32) d_Lo_wanted_1 rfl ?_
  refine gk_callV (pc := 2) (d := (d + 2)) (w' := gv_R) (as := [.int (0 : Int32)]) (n := 1) 4 d_Lo_wanted_2 rfl rfl rfl rfl (Nat.le_of_ble_eq_true rfl) tw_1471 tw_792 tw_793 tw_96 cw_Ar_sound hy_Ar_sound (Nat.le_of_ble_eq_true rfl) (p_Ar_sound (d + 1) a0 (0 : Int32) h) fun x1 h1 => ?_
  refine gk_astore_n (pc := 5) (L' := [(1, va_rf x1), (0, va_rf a0)]) d_Lo_wanted_5 (Nat.le_of_ble_eq_true rfl) (by simp [gk_s1, gk_s2, gk_cat_rf, gk_catI, gk_catJ, gk_catD] <;> decide) ?_
  refine gk_aload_n (pc := 6) 0 d_Lo_wanted_6 rfl ?_
  refine gk_getI (pc := 7) 2 0 d_Lo_wanted_7 rfl (Nat.le_of_ble_eq_true rfl) tw_189 fun x2 => ?_
  refine gk_if_ne (pc := 10) 20 d_Lo_wanted_10 rfl (fun _ => ?_) (fun _ => ?_)
  · refine gk_dconst0 (pc := 13) d_Lo_wanted_13 ?_
    refine gk_callS (pc := 14) (d := (d + 2)) (w' := gv_R) (as := [.double (0x0000000000000000)]) (n := 1) d_Lo_wanted_14 rfl rfl (Nat.le_of_ble_eq_true rfl) tw_1446 tw_317 tw_97 cw_Va_ofNumber hy_Va_ofNumber (Nat.le_of_ble_eq_true rfl) (p_Va_ofNumber d (0x0000000000000000) h1) fun x3 h2 => ?_
    refine gk_goto (pc := 17) 21 d_Lo_wanted_17 rfl ?_
    refine gk_weak [] (L' := []) rfl ?_
    exact p_Lo_wanted_b21 d x3 h2
  · refine gk_aload_n (pc := 20) 0 d_Lo_wanted_20 rfl ?_
    refine gk_weak [] (L' := []) rfl ?_
    exact p_Lo_wanted_b21 d x1 h1
theorem p_Lo_wanted (d : Nat) (a0 : Option Nat) (h : gk_H) : ∀ r h1, f_Lo_wanted a0 h = some (r, h1) → gk_M (d + 3) y_Lo_wanted b_Lo_wanted 2 (some (.object "ValueAlgebra$Value")) [va_rf a0] h (.inl (gv_R r)) h1 :=
  fun r h1 e => gk_M_of2 (by decide +kernel) (by simp [lv_args, gk_cat_rf, gk_catI, gk_catJ, gk_catD, gv_V, gv_I, gv_J, gv_D, gv_R]) (by simp [lg_sl, gk_cat_rf, gk_catI, gk_catJ, gk_catD, gv_V, gv_I, gv_J, gv_D, gv_R]) (w_Lo_wanted d a0 h r h1 e)
theorem d_Ar_truthOr_0 : decode b_Ar_truthOr 0 = .ok (.iload_n 1, 1) := by decide +kernel
theorem d_Ar_truthOr_1 : decode b_Ar_truthOr 1 = .ok (.aload_n 0, 1) := by decide +kernel
theorem d_Ar_truthOr_2 : decode b_Ar_truthOr 2 = .ok (.getfield 46, 3) := by decide +kernel
theorem d_Ar_truthOr_5 : decode b_Ar_truthOr 5 = .ok (.if_icmp .ge 11, 3) := by decide +kernel
theorem d_Ar_truthOr_8 : decode b_Ar_truthOr 8 = .ok (.aload_n 0, 1) := by decide +kernel
theorem d_Ar_truthOr_9 : decode b_Ar_truthOr 9 = .ok (.iload_n 1, 1) := by decide +kernel
theorem d_Ar_truthOr_10 : decode b_Ar_truthOr 10 = .ok (.invokevirtual 127, 3) := by decide +kernel
theorem d_Ar_truthOr_13 : decode b_Ar_truthOr 13 = .ok (.goto 4, 3) := by decide +kernel
theorem d_Ar_truthOr_16 : decode b_Ar_truthOr 16 = .ok (.iload_n 2, 1) := by decide +kernel
theorem d_Ar_truthOr_17 : decode b_Ar_truthOr 17 = .ok (.ireturn, 1) := by decide +kernel
theorem p_Ar_truthOr_b17 (d : Nat)  (s0 : Int32) (h : gk_H) : gk_P gw_I (d + 6) y_Ar_truthOr b_Ar_truthOr 3 (some .boolean) [] (f_Ar_truthOr_b17  s0 h) 17 [] [.int s0] h := by
  unfold f_Ar_truthOr_b17
  exact gk_zret (pc := 17) rfl d_Ar_truthOr_17 rfl
theorem w_Ar_truthOr (d : Nat) (a0 : Option Nat) (a1 : Int32) (a2 : Int32) (h : gk_H) : gk_P gw_I (d + 6) y_Ar_truthOr b_Ar_truthOr 3 (some .boolean) [] (f_Ar_truthOr a0 a1 a2 h) 0 [(0, va_rf a0), (1, .int a1), (2, .int a2)] [] h := by
  unfold f_Ar_truthOr
  refine gk_iload_n (pc := 0) 1 d_Ar_truthOr_0 rfl ?_
  refine gk_aload_n (pc := 1) 0 d_Ar_truthOr_1 rfl ?_
  refine gk_getI (pc := 2) 4 2 d_Ar_truthOr_2 rfl (Nat.le_of_ble_eq_true rfl) tw_262 fun x1 => ?_
  refine gk_icmp_ge (pc := 5) 16 d_Ar_truthOr_5 rfl (fun _ => ?_) (fun _ => ?_)
  · refine gk_iload_n (pc := 16) 2 d_Ar_truthOr_16 rfl ?_
    refine gk_weak [] (L' := []) rfl ?_
    exact p_Ar_truthOr_b17 d a2 h
  · refine gk_aload_n (pc := 8) 0 d_Ar_truthOr_8 rfl ?_
    refine gk_iload_n (pc := 9) 1 d_Ar_truthOr_9 rfl ?_
    refine gk_callV (pc := 10) (d := (d + 5)) (w' := gv_I) (as := [.int a1]) (n := 1) 4 d_Ar_truthOr_10 rfl rfl rfl rfl (Nat.le_of_ble_eq_true rfl) tw_1497 tw_1304 tw_1305 tw_96 cw_Ar_truth hy_Ar_truth (Nat.le_of_ble_eq_true rfl) (p_Ar_truth d a0 a1 h) fun x2 h1 => ?_
    refine gk_goto (pc := 13) 17 d_Ar_truthOr_13 rfl ?_
    refine gk_weak [] (L' := []) rfl ?_
    exact p_Ar_truthOr_b17 d x2 h1
theorem p_Ar_truthOr (d : Nat) (a0 : Option Nat) (a1 : Int32) (a2 : Int32) (h : gk_H) : ∀ r h1, f_Ar_truthOr a0 a1 a2 h = some (r, h1) → gk_M (d + 6) y_Ar_truthOr b_Ar_truthOr 3 (some .boolean) [va_rf a0, .int a1, .int a2] h (.inl (gv_I r)) h1 :=
  fun r h1 e => gk_M_of2 (by decide +kernel) (by simp [lv_args, gk_cat_rf, gk_catI, gk_catJ, gk_catD, gv_V, gv_I, gv_J, gv_D, gv_R]) (by simp [lg_sl, gk_cat_rf, gk_catI, gk_catJ, gk_catD, gv_V, gv_I, gv_J, gv_D, gv_R]) (w_Ar_truthOr d a0 a1 a2 h r h1 e)
theorem d_Lo_firstSame_0 : decode b_Lo_firstSame 0 = .ok (.aload_n 2, 1) := by decide +kernel
theorem d_Lo_firstSame_1 : decode b_Lo_firstSame 1 = .ok (.aload_n 0, 1) := by decide +kernel
theorem d_Lo_firstSame_2 : decode b_Lo_firstSame 2 = .ok (.getfield 111, 3) := by decide +kernel
theorem d_Lo_firstSame_5 : decode b_Lo_firstSame 5 = .ok (.invokevirtual 115, 3) := by decide +kernel
theorem d_Lo_firstSame_8 : decode b_Lo_firstSame 8 = .ok (.iconst 0, 1) := by decide +kernel
theorem d_Lo_firstSame_9 : decode b_Lo_firstSame 9 = .ok (.istore_n 3, 1) := by decide +kernel
theorem d_Lo_firstSame_10 : decode b_Lo_firstSame 10 = .ok (.iload_n 3, 1) := by decide +kernel
theorem d_Lo_firstSame_11 : decode b_Lo_firstSame 11 = .ok (.aload_n 1, 1) := by decide +kernel
theorem d_Lo_firstSame_12 : decode b_Lo_firstSame 12 = .ok (.invokevirtual 121, 3) := by decide +kernel
theorem d_Lo_firstSame_15 : decode b_Lo_firstSame 15 = .ok (.if_icmp .ge 72, 3) := by decide +kernel
theorem d_Lo_firstSame_18 : decode b_Lo_firstSame 18 = .ok (.aload_n 1, 1) := by decide +kernel
theorem d_Lo_firstSame_19 : decode b_Lo_firstSame 19 = .ok (.iload_n 3, 1) := by decide +kernel
theorem d_Lo_firstSame_20 : decode b_Lo_firstSame 20 = .ok (.invokevirtual 124, 3) := by decide +kernel
theorem d_Lo_firstSame_23 : decode b_Lo_firstSame 23 = .ok (.astore 4, 2) := by decide +kernel
theorem d_Lo_firstSame_25 : decode b_Lo_firstSame 25 = .ok (.aload 4, 2) := by decide +kernel
theorem d_Lo_firstSame_27 : decode b_Lo_firstSame 27 = .ok (.getfield 81, 3) := by decide +kernel
theorem d_Lo_firstSame_30 : decode b_Lo_firstSame 30 = .ok (.aload_n 0, 1) := by decide +kernel
theorem d_Lo_firstSame_31 : decode b_Lo_firstSame 31 = .ok (.getfield 81, 3) := by decide +kernel
theorem d_Lo_firstSame_34 : decode b_Lo_firstSame 34 = .ok (.if_icmp .ne 47, 3) := by decide +kernel
theorem d_Lo_firstSame_37 : decode b_Lo_firstSame 37 = .ok (.aload 4, 2) := by decide +kernel
theorem d_Lo_firstSame_39 : decode b_Lo_firstSame 39 = .ok (.getfield 81, 3) := by decide +kernel
theorem d_Lo_firstSame_42 : decode b_Lo_firstSame 42 = .ok (.iconst 2, 1) := by decide +kernel
theorem d_Lo_firstSame_43 : decode b_Lo_firstSame 43 = .ok (.if_icmp .ne 15, 3) := by decide +kernel
theorem d_Lo_firstSame_46 : decode b_Lo_firstSame 46 = .ok (.aload_n 2, 1) := by decide +kernel
theorem d_Lo_firstSame_47 : decode b_Lo_firstSame 47 = .ok (.aload 4, 2) := by decide +kernel
theorem d_Lo_firstSame_49 : decode b_Lo_firstSame 49 = .ok (.getfield 111, 3) := by decide +kernel
theorem d_Lo_firstSame_52 : decode b_Lo_firstSame 52 = .ok (.invokevirtual 127, 3) := by decide +kernel
theorem d_Lo_firstSame_55 : decode b_Lo_firstSame 55 = .ok (.goto 17, 3) := by decide +kernel
theorem d_Lo_firstSame_58 : decode b_Lo_firstSame 58 = .ok (.aload 4, 2) := by decide +kernel
theorem d_Lo_firstSame_60 : decode b_Lo_firstSame 60 = .ok (.aload_n 0, 1) := by decide +kernel
theorem d_Lo_firstSame_61 : decode b_Lo_firstSame 61 = .ok (.invokestatic 131, 3) := by decide +kernel
theorem d_Lo_firstSame_64 : decode b_Lo_firstSame 64 = .ok (.ifCond .ne 7, 3) := by decide +kernel
theorem d_Lo_firstSame_67 : decode b_Lo_firstSame 67 = .ok (.iconst 1, 1) := by decide +kernel
theorem d_Lo_firstSame_68 : decode b_Lo_firstSame 68 = .ok (.goto 4, 3) := by decide +kernel
theorem d_Lo_firstSame_71 : decode b_Lo_firstSame 71 = .ok (.iconst 0, 1) := by decide +kernel
theorem d_Lo_firstSame_72 : decode b_Lo_firstSame 72 = .ok (.istore 5, 2) := by decide +kernel
theorem d_Lo_firstSame_74 : decode b_Lo_firstSame 74 = .ok (.iload 5, 2) := by decide +kernel
theorem d_Lo_firstSame_76 : decode b_Lo_firstSame 76 = .ok (.ifCond .eq 5, 3) := by decide +kernel
theorem d_Lo_firstSame_79 : decode b_Lo_firstSame 79 = .ok (.iload_n 3, 1) := by decide +kernel
theorem d_Lo_firstSame_80 : decode b_Lo_firstSame 80 = .ok (.ireturn, 1) := by decide +kernel
theorem d_Lo_firstSame_81 : decode b_Lo_firstSame 81 = .ok (.iinc 3 1, 3) := by decide +kernel
theorem d_Lo_firstSame_84 : decode b_Lo_firstSame 84 = .ok (.goto (-74), 3) := by decide +kernel
theorem d_Lo_firstSame_87 : decode b_Lo_firstSame 87 = .ok (.iconst (-1), 1) := by decide +kernel
theorem d_Lo_firstSame_88 : decode b_Lo_firstSame 88 = .ok (.ireturn, 1) := by decide +kernel
theorem p_Lo_firstSame_b81 (d : Nat) (b10 : Option Nat → Option Nat → Option Nat → Int32 → gk_H → Option (Int32 × gk_H)) (q10 : ∀ (v0 : Option Nat) (v1 : Option Nat) (v2 : Option Nat) (v3 : Int32) (h : gk_H), gk_P gw_I (d + 6) y_Lo_firstSame b_Lo_firstSame 6 (some .int) [] (b10 v0 v1 v2 v3 h) 10 [(0, va_rf v0), (1, va_rf v1), (2, va_rf v2), (3, .int v3)] [] h) (v0 : Option Nat) (v1 : Option Nat) (v2 : Option Nat) (v3 : Int32) (h : gk_H) : gk_P gw_I (d + 6) y_Lo_firstSame b_Lo_firstSame 6 (some .int) [] (f_Lo_firstSame_b81 b10 v0 v1 v2 v3 h) 81 [(0, va_rf v0), (1, va_rf v1), (2, va_rf v2), (3, .int v3)] [] h := by
  unfold f_Lo_firstSame_b81
  refine gk_iincN (pc := 81) 3 (1 : Int32) (L' := fun x1 => [(3, .int x1), (0, va_rf v0), (1, va_rf v1), (2, va_rf v2)]) d_Lo_firstSame_81 rfl rfl (Nat.le_of_ble_eq_true rfl) (fun _ => by simp [gk_s1, gk_cat_rf, gk_catI, gk_catJ, gk_catD] <;> decide) fun x1 => ?_
  refine gk_goto (pc := 84) 10 d_Lo_firstSame_84 rfl ?_
  refine gk_weak [1, 2, 3, 0] (L' := [(0, va_rf v0), (1, va_rf v1), (2, va_rf v2), (3, .int x1)]) rfl ?_
  exact q10 v0 v1 v2 x1 h
theorem p_Lo_firstSame_b72 (d : Nat) (b10 : Option Nat → Option Nat → Option Nat → Int32 → gk_H → Option (Int32 × gk_H)) (q10 : ∀ (v0 : Option Nat) (v1 : Option Nat) (v2 : Option Nat) (v3 : Int32) (h : gk_H), gk_P gw_I (d + 6) y_Lo_firstSame b_Lo_firstSame 6 (some .int) [] (b10 v0 v1 v2 v3 h) 10 [(0, va_rf v0), (1, va_rf v1), (2, va_rf v2), (3, .int v3)] [] h) (v0 : Option Nat) (v1 : Option Nat) (v2 : Option Nat) (v3 : Int32) (s0 : Int32) (h : gk_H) : gk_P gw_I (d + 6) y_Lo_firstSame b_Lo_firstSame 6 (some .int) [] (f_Lo_firstSame_b72 b10 v0 v1 v2 v3 s0 h) 72 [(0, va_rf v0), (1, va_rf v1), (2, va_rf v2), (3, .int v3)] [.int s0] h := by
  unfold f_Lo_firstSame_b72
  refine gk_istore (pc := 72) (L' := [(5, .int s0), (0, va_rf v0), (1, va_rf v1), (2, va_rf v2), (3, .int v3)]) d_Lo_firstSame_72 (Nat.le_of_ble_eq_true rfl) rfl ?_
  refine gk_iload (pc := 74) 0 d_Lo_firstSame_74 rfl ?_
  refine gk_if_eq (pc := 76) 81 d_Lo_firstSame_76 rfl (fun _ => ?_) (fun _ => ?_)
  · refine gk_weak [1, 2, 3, 4] (L' := [(0, va_rf v0), (1, va_rf v1), (2, va_rf v2), (3, .int v3)]) rfl ?_
    exact p_Lo_firstSame_b81 d b10 q10 v0 v1 v2 v3 h
  · refine gk_iload_n (pc := 79) 4 d_Lo_firstSame_79 rfl ?_
    exact gk_iret (pc := 80) rfl d_Lo_firstSame_80 rfl
theorem p_Lo_firstSame_b10 (d : Nat)  : ∀ (fu : Nat) (v0 : Option Nat) (v1 : Option Nat) (v2 : Option Nat) (v3 : Int32) (h : gk_H), gk_P gw_I (d + 6) y_Lo_firstSame b_Lo_firstSame 6 (some .int) [] (f_Lo_firstSame_b10  fu v0 v1 v2 v3 h) 10 [(0, va_rf v0), (1, va_rf v1), (2, va_rf v2), (3, .int v3)] [] h := by
  intro fu
  induction fu with
  | zero => intros; exact gk_none
  | succ fu q10 =>
    intro v0 v1 v2 v3 h
    rw [f_Lo_firstSame_b10]
    refine gk_iload_n (pc := 10) 3 d_Lo_firstSame_10 rfl ?_
    refine gk_aload_n (pc := 11) 1 d_Lo_firstSame_11 rfl ?_
    refine gk_callV (pc := 12) (d := (d + 5)) (w' := gv_I) (as := []) (n := 0) 2 d_Lo_firstSame_12 rfl rfl rfl rfl (Nat.le_of_ble_eq_true rfl) tw_1483 tw_776 tw_777 tw_97 cw_Va_howManyCells hy_Va_howManyCells (Nat.le_of_ble_eq_true rfl) (p_Va_howManyCells (d + 5) v1 h) fun x1 h1 => ?_
    refine gk_icmp_ge (pc := 15) 87 d_Lo_firstSame_15 rfl (fun _ => ?_) (fun _ => ?_)
    · refine gk_iconst (pc := 87) (-1 : Int32) d_Lo_firstSame_87 rfl ?_
      exact gk_iret (pc := 88) rfl d_Lo_firstSame_88 rfl
    · refine gk_aload_n (pc := 18) 1 d_Lo_firstSame_18 rfl ?_
      refine gk_iload_n (pc := 19) 3 d_Lo_firstSame_19 rfl ?_
      refine gk_callV (pc := 20) (d := (d + 5)) (w' := gv_R) (as := [.int v3]) (n := 1) 2 d_Lo_firstSame_20 rfl rfl rfl rfl (Nat.le_of_ble_eq_true rfl) tw_1484 tw_780 tw_781 tw_97 cw_Va_cellAt hy_Va_cellAt (Nat.le_of_ble_eq_true rfl) (p_Va_cellAt (d + 5) v1 v3 h1) fun x2 h2 => ?_
      refine gk_astore (pc := 23) (L' := [(4, va_rf x2), (0, va_rf v0), (1, va_rf v1), (2, va_rf v2), (3, .int v3)]) d_Lo_firstSame_23 (Nat.le_of_ble_eq_true rfl) rfl ?_
      refine gk_aload (pc := 25) 0 d_Lo_firstSame_25 rfl ?_
      refine gk_getI (pc := 27) 2 0 d_Lo_firstSame_27 rfl (Nat.le_of_ble_eq_true rfl) tw_189 fun x3 => ?_
      refine gk_aload_n (pc := 30) 1 d_Lo_firstSame_30 rfl ?_
      refine gk_getI (pc := 31) 2 0 d_Lo_firstSame_31 rfl (Nat.le_of_ble_eq_true rfl) tw_189 fun x4 => ?_
      refine gk_icmp_ne (pc := 34) 81 d_Lo_firstSame_34 rfl (fun _ => ?_) (fun _ => ?_)
      · refine gk_aload (pc := 37) 0 d_Lo_firstSame_37 rfl ?_
        refine gk_getI (pc := 39) 2 0 d_Lo_firstSame_39 rfl (Nat.le_of_ble_eq_true rfl) tw_189 fun x5 => ?_
        refine gk_iconst (pc := 42) (2 : Int32) d_Lo_firstSame_42 rfl ?_
        refine gk_icmp_ne (pc := 43) 58 d_Lo_firstSame_43 rfl (fun _ => ?_) (fun _ => ?_)
        · refine gk_aload_n (pc := 46) 3 d_Lo_firstSame_46 rfl ?_
          refine gk_aload (pc := 47) 0 d_Lo_firstSame_47 rfl ?_
          refine gk_getR (pc := 49) 2 3 d_Lo_firstSame_49 rfl (Nat.le_of_ble_eq_true rfl) tw_209 fun x6 => ?_
          refine gk_callV (pc := 52) (d := (d + 5)) (w' := gv_I) (as := [va_rf x6]) (n := 1) 3 d_Lo_firstSame_52 rfl rfl rfl rfl (Nat.le_of_ble_eq_true rfl) tw_1485 tw_1181 tw_1182 tw_98 cw_Li_isMetBy hy_Li_isMetBy (Nat.le_of_ble_eq_true rfl) (p_Li_isMetBy d v2 x6 h2) fun x7 h3 => ?_
          refine gk_goto (pc := 55) 72 d_Lo_firstSame_55 rfl ?_
          refine gk_weak [1, 2, 3, 4] (L' := [(0, va_rf v0), (1, va_rf v1), (2, va_rf v2), (3, .int v3)]) rfl ?_
          exact p_Lo_firstSame_b72 d (f_Lo_firstSame_b10 fu) q10 v0 v1 v2 v3 x7 h3
        · refine gk_aload (pc := 58) 0 d_Lo_firstSame_58 rfl ?_
          refine gk_aload_n (pc := 60) 1 d_Lo_firstSame_60 rfl ?_
          refine gk_callS (pc := 61) (d := (d + 5)) (w' := gv_I) (as := [va_rf x2, va_rf v0]) (n := 2) d_Lo_firstSame_61 rfl rfl (Nat.le_of_ble_eq_true rfl) tw_1486 tw_974 tw_115 cw_Op_order hy_Op_order (Nat.le_of_ble_eq_true rfl) (p_Op_order d x2 v0 h2) fun x8 h4 => ?_
          refine gk_if_ne (pc := 64) 71 d_Lo_firstSame_64 rfl (fun _ => ?_) (fun _ => ?_)
          · refine gk_iconst (pc := 67) (1 : Int32) d_Lo_firstSame_67 rfl ?_
            refine gk_goto (pc := 68) 72 d_Lo_firstSame_68 rfl ?_
            refine gk_weak [1, 2, 3, 4] (L' := [(0, va_rf v0), (1, va_rf v1), (2, va_rf v2), (3, .int v3)]) rfl ?_
            exact p_Lo_firstSame_b72 d (f_Lo_firstSame_b10 fu) q10 v0 v1 v2 v3 (1 : Int32) h4
          · refine gk_iconst (pc := 71) (0 : Int32) d_Lo_firstSame_71 rfl ?_
            refine gk_weak [1, 2, 3, 4] (L' := [(0, va_rf v0), (1, va_rf v1), (2, va_rf v2), (3, .int v3)]) rfl ?_
            exact p_Lo_firstSame_b72 d (f_Lo_firstSame_b10 fu) q10 v0 v1 v2 v3 (0 : Int32) h4
      · refine gk_weak [1, 2, 3, 4] (L' := [(0, va_rf v0), (1, va_rf v1), (2, va_rf v2), (3, .int v3)]) rfl ?_
        exact p_Lo_firstSame_b81 d (f_Lo_firstSame_b10 fu) q10 v0 v1 v2 v3 h2
theorem w_Lo_firstSame (d : Nat) (a0 : Option Nat) (a1 : Option Nat) (a2 : Option Nat) (h : gk_H) : gk_P gw_I (d + 6) y_Lo_firstSame b_Lo_firstSame 6 (some .int) [] (f_Lo_firstSame a0 a1 a2 h) 0 [(0, va_rf a0), (1, va_rf a1), (2, va_rf a2)] [] h := by
  unfold f_Lo_firstSame
  refine gk_aload_n (pc := 0) 2 d_Lo_firstSame_0 rfl ?_
  refine gk_aload_n (pc := 1) 0 d_Lo_firstSame_1 rfl ?_
  refine gk_getR (pc := 2) 2 3 d_Lo_firstSame_2 rfl (Nat.le_of_ble_eq_true rfl) tw_209 fun x1 => ?_
  refine gk_callV (pc := 5) (d := (d + 5)) (w' := gv_V) (as := [va_rf x1]) (n := 1) 3 d_Lo_firstSame_5 rfl rfl rfl rfl (Nat.le_of_ble_eq_true rfl) tw_1482 tw_1150 tw_1151 tw_98 cw_Li_prepare hy_Li_prepare (Nat.le_of_ble_eq_true rfl) (p_Li_prepare (d + 1) a2 x1 h) fun _ h1 => ?_
  refine gk_iconst (pc := 8) (0 : Int32) d_Lo_firstSame_8 rfl ?_
  refine gk_istore_n (pc := 9) (L' := [(3, .int (0 : Int32)), (0, va_rf a0), (1, va_rf a1), (2, va_rf a2)]) d_Lo_firstSame_9 (Nat.le_of_ble_eq_true rfl) (by simp [gk_s1, gk_s2, gk_cat_rf, gk_catI, gk_catJ, gk_catD] <;> decide) ?_
  refine gk_weak [1, 2, 3, 0] (L' := [(0, va_rf a0), (1, va_rf a1), (2, va_rf a2), (3, .int (0 : Int32))]) rfl ?_
  exact p_Lo_firstSame_b10 d gk_F a0 a1 a2 (0 : Int32) h1
theorem p_Lo_firstSame (d : Nat) (a0 : Option Nat) (a1 : Option Nat) (a2 : Option Nat) (h : gk_H) : ∀ r h1, f_Lo_firstSame a0 a1 a2 h = some (r, h1) → gk_M (d + 6) y_Lo_firstSame b_Lo_firstSame 6 (some .int) [va_rf a0, va_rf a1, va_rf a2] h (.inl (gv_I r)) h1 :=
  fun r h1 e => gk_M_of2 (by decide +kernel) (by simp [lv_args, gk_cat_rf, gk_catI, gk_catJ, gk_catD, gv_V, gv_I, gv_J, gv_D, gv_R]) (by simp [lg_sl, gk_cat_rf, gk_catI, gk_catJ, gk_catD, gv_V, gv_I, gv_J, gv_D, gv_R]) (w_Lo_firstSame d a0 a1 a2 h r h1 e)
theorem d_Lo_lastBefore_0 : decode b_Lo_lastBefore 0 = .ok (.iconst (-1), 1) := by decide +kernel
theorem d_Lo_lastBefore_1 : decode b_Lo_lastBefore 1 = .ok (.istore_n 3, 1) := by decide +kernel
theorem d_Lo_lastBefore_2 : decode b_Lo_lastBefore 2 = .ok (.iconst 0, 1) := by decide +kernel
theorem d_Lo_lastBefore_3 : decode b_Lo_lastBefore 3 = .ok (.istore 4, 2) := by decide +kernel
theorem d_Lo_lastBefore_5 : decode b_Lo_lastBefore 5 = .ok (.iload 4, 2) := by decide +kernel
theorem d_Lo_lastBefore_7 : decode b_Lo_lastBefore 7 = .ok (.aload_n 1, 1) := by decide +kernel
theorem d_Lo_lastBefore_8 : decode b_Lo_lastBefore 8 = .ok (.invokevirtual 121, 3) := by decide +kernel
theorem d_Lo_lastBefore_11 : decode b_Lo_lastBefore 11 = .ok (.if_icmp .ge 45, 3) := by decide +kernel
theorem d_Lo_lastBefore_14 : decode b_Lo_lastBefore 14 = .ok (.aload_n 1, 1) := by decide +kernel
theorem d_Lo_lastBefore_15 : decode b_Lo_lastBefore 15 = .ok (.iload 4, 2) := by decide +kernel
theorem d_Lo_lastBefore_17 : decode b_Lo_lastBefore 17 = .ok (.invokevirtual 124, 3) := by decide +kernel
theorem d_Lo_lastBefore_20 : decode b_Lo_lastBefore 20 = .ok (.astore 5, 2) := by decide +kernel
theorem d_Lo_lastBefore_22 : decode b_Lo_lastBefore 22 = .ok (.aload 5, 2) := by decide +kernel
theorem d_Lo_lastBefore_24 : decode b_Lo_lastBefore 24 = .ok (.getfield 81, 3) := by decide +kernel
theorem d_Lo_lastBefore_27 : decode b_Lo_lastBefore 27 = .ok (.aload_n 0, 1) := by decide +kernel
theorem d_Lo_lastBefore_28 : decode b_Lo_lastBefore 28 = .ok (.getfield 81, 3) := by decide +kernel
theorem d_Lo_lastBefore_31 : decode b_Lo_lastBefore 31 = .ok (.if_icmp .ne 19, 3) := by decide +kernel
theorem d_Lo_lastBefore_34 : decode b_Lo_lastBefore 34 = .ok (.aload 5, 2) := by decide +kernel
theorem d_Lo_lastBefore_36 : decode b_Lo_lastBefore 36 = .ok (.aload_n 0, 1) := by decide +kernel
theorem d_Lo_lastBefore_37 : decode b_Lo_lastBefore 37 = .ok (.invokestatic 131, 3) := by decide +kernel
theorem d_Lo_lastBefore_40 : decode b_Lo_lastBefore 40 = .ok (.iload_n 2, 1) := by decide +kernel
theorem d_Lo_lastBefore_41 : decode b_Lo_lastBefore 41 = .ok (.imul, 1) := by decide +kernel
theorem d_Lo_lastBefore_42 : decode b_Lo_lastBefore 42 = .ok (.ifCond .le 5, 3) := by decide +kernel
theorem d_Lo_lastBefore_45 : decode b_Lo_lastBefore 45 = .ok (.iload_n 3, 1) := by decide +kernel
theorem d_Lo_lastBefore_46 : decode b_Lo_lastBefore 46 = .ok (.ireturn, 1) := by decide +kernel
theorem d_Lo_lastBefore_47 : decode b_Lo_lastBefore 47 = .ok (.iload 4, 2) := by decide +kernel
theorem d_Lo_lastBefore_49 : decode b_Lo_lastBefore 49 = .ok (.istore_n 3, 1) := by decide +kernel
theorem d_Lo_lastBefore_50 : decode b_Lo_lastBefore 50 = .ok (.iinc 4 1, 3) := by decide +kernel
theorem d_Lo_lastBefore_53 : decode b_Lo_lastBefore 53 = .ok (.goto (-48), 3) := by decide +kernel
theorem d_Lo_lastBefore_56 : decode b_Lo_lastBefore 56 = .ok (.iload_n 3, 1) := by decide +kernel
theorem d_Lo_lastBefore_57 : decode b_Lo_lastBefore 57 = .ok (.ireturn, 1) := by decide +kernel
theorem p_Lo_lastBefore_b50 (d : Nat) (b5 : Option Nat → Option Nat → Int32 → Int32 → Int32 → gk_H → Option (Int32 × gk_H)) (q5 : ∀ (v0 : Option Nat) (v1 : Option Nat) (v2 : Int32) (v3 : Int32) (v4 : Int32) (h : gk_H), gk_P gw_I (d + 6) y_Lo_lastBefore b_Lo_lastBefore 6 (some .int) [] (b5 v0 v1 v2 v3 v4 h) 5 [(0, va_rf v0), (1, va_rf v1), (2, .int v2), (3, .int v3), (4, .int v4)] [] h) (v0 : Option Nat) (v1 : Option Nat) (v2 : Int32) (v3 : Int32) (v4 : Int32) (h : gk_H) : gk_P gw_I (d + 6) y_Lo_lastBefore b_Lo_lastBefore 6 (some .int) [] (f_Lo_lastBefore_b50 b5 v0 v1 v2 v3 v4 h) 50 [(0, va_rf v0), (1, va_rf v1), (2, .int v2), (3, .int v3), (4, .int v4)] [] h := by
  unfold f_Lo_lastBefore_b50
  refine gk_iincN (pc := 50) 4 (1 : Int32) (L' := fun x1 => [(4, .int x1), (0, va_rf v0), (1, va_rf v1), (2, .int v2), (3, .int v3)]) d_Lo_lastBefore_50 rfl rfl (Nat.le_of_ble_eq_true rfl) (fun _ => rfl) fun x1 => ?_
  refine gk_goto (pc := 53) 5 d_Lo_lastBefore_53 rfl ?_
  refine gk_weak [1, 2, 3, 4, 0] (L' := [(0, va_rf v0), (1, va_rf v1), (2, .int v2), (3, .int v3), (4, .int x1)]) rfl ?_
  exact q5 v0 v1 v2 v3 x1 h
theorem p_Lo_lastBefore_b5 (d : Nat)  : ∀ (fu : Nat) (v0 : Option Nat) (v1 : Option Nat) (v2 : Int32) (v3 : Int32) (v4 : Int32) (h : gk_H), gk_P gw_I (d + 6) y_Lo_lastBefore b_Lo_lastBefore 6 (some .int) [] (f_Lo_lastBefore_b5  fu v0 v1 v2 v3 v4 h) 5 [(0, va_rf v0), (1, va_rf v1), (2, .int v2), (3, .int v3), (4, .int v4)] [] h := by
  intro fu
  induction fu with
  | zero => intros; exact gk_none
  | succ fu q5 =>
    intro v0 v1 v2 v3 v4 h
    rw [f_Lo_lastBefore_b5]
    refine gk_iload (pc := 5) 4 d_Lo_lastBefore_5 rfl ?_
    refine gk_aload_n (pc := 7) 1 d_Lo_lastBefore_7 rfl ?_
    refine gk_callV (pc := 8) (d := (d + 5)) (w' := gv_I) (as := []) (n := 0) 2 d_Lo_lastBefore_8 rfl rfl rfl rfl (Nat.le_of_ble_eq_true rfl) tw_1483 tw_776 tw_777 tw_97 cw_Va_howManyCells hy_Va_howManyCells (Nat.le_of_ble_eq_true rfl) (p_Va_howManyCells (d + 5) v1 h) fun x1 h1 => ?_
    refine gk_icmp_ge (pc := 11) 56 d_Lo_lastBefore_11 rfl (fun _ => ?_) (fun _ => ?_)
    · refine gk_iload_n (pc := 56) 3 d_Lo_lastBefore_56 rfl ?_
      exact gk_iret (pc := 57) rfl d_Lo_lastBefore_57 rfl
    · refine gk_aload_n (pc := 14) 1 d_Lo_lastBefore_14 rfl ?_
      refine gk_iload (pc := 15) 4 d_Lo_lastBefore_15 rfl ?_
      refine gk_callV (pc := 17) (d := (d + 5)) (w' := gv_R) (as := [.int v4]) (n := 1) 2 d_Lo_lastBefore_17 rfl rfl rfl rfl (Nat.le_of_ble_eq_true rfl) tw_1484 tw_780 tw_781 tw_97 cw_Va_cellAt hy_Va_cellAt (Nat.le_of_ble_eq_true rfl) (p_Va_cellAt (d + 5) v1 v4 h1) fun x2 h2 => ?_
      refine gk_astore (pc := 20) (L' := [(5, va_rf x2), (0, va_rf v0), (1, va_rf v1), (2, .int v2), (3, .int v3), (4, .int v4)]) d_Lo_lastBefore_20 (Nat.le_of_ble_eq_true rfl) rfl ?_
      refine gk_aload (pc := 22) 0 d_Lo_lastBefore_22 rfl ?_
      refine gk_getI (pc := 24) 2 0 d_Lo_lastBefore_24 rfl (Nat.le_of_ble_eq_true rfl) tw_189 fun x3 => ?_
      refine gk_aload_n (pc := 27) 1 d_Lo_lastBefore_27 rfl ?_
      refine gk_getI (pc := 28) 2 0 d_Lo_lastBefore_28 rfl (Nat.le_of_ble_eq_true rfl) tw_189 fun x4 => ?_
      refine gk_icmp_ne (pc := 31) 50 d_Lo_lastBefore_31 rfl (fun _ => ?_) (fun _ => ?_)
      · refine gk_aload (pc := 34) 0 d_Lo_lastBefore_34 rfl ?_
        refine gk_aload_n (pc := 36) 1 d_Lo_lastBefore_36 rfl ?_
        refine gk_callS (pc := 37) (d := (d + 5)) (w' := gv_I) (as := [va_rf x2, va_rf v0]) (n := 2) d_Lo_lastBefore_37 rfl rfl (Nat.le_of_ble_eq_true rfl) tw_1486 tw_974 tw_115 cw_Op_order hy_Op_order (Nat.le_of_ble_eq_true rfl) (p_Op_order d x2 v0 h2) fun x5 h3 => ?_
        refine gk_iload_n (pc := 40) 3 d_Lo_lastBefore_40 rfl ?_
        refine gk_imul (pc := 41) d_Lo_lastBefore_41 ?_
        refine gk_if_le (pc := 42) 47 d_Lo_lastBefore_42 rfl (fun _ => ?_) (fun _ => ?_)
        · refine gk_iload (pc := 47) 5 d_Lo_lastBefore_47 rfl ?_
          refine gk_istore_n (pc := 49) (L' := [(3, .int v4), (5, va_rf x2), (0, va_rf v0), (1, va_rf v1), (2, .int v2), (4, .int v4)]) d_Lo_lastBefore_49 (Nat.le_of_ble_eq_true rfl) rfl ?_
          refine gk_weak [2, 3, 4, 0, 5] (L' := [(0, va_rf v0), (1, va_rf v1), (2, .int v2), (3, .int v4), (4, .int v4)]) rfl ?_
          exact p_Lo_lastBefore_b50 d (f_Lo_lastBefore_b5 fu) q5 v0 v1 v2 v4 v4 h3
        · refine gk_iload_n (pc := 45) 4 d_Lo_lastBefore_45 rfl ?_
          exact gk_iret (pc := 46) rfl d_Lo_lastBefore_46 rfl
      · refine gk_weak [1, 2, 3, 4, 5] (L' := [(0, va_rf v0), (1, va_rf v1), (2, .int v2), (3, .int v3), (4, .int v4)]) rfl ?_
        exact p_Lo_lastBefore_b50 d (f_Lo_lastBefore_b5 fu) q5 v0 v1 v2 v3 v4 h2
theorem w_Lo_lastBefore (d : Nat) (a0 : Option Nat) (a1 : Option Nat) (a2 : Int32) (h : gk_H) : gk_P gw_I (d + 6) y_Lo_lastBefore b_Lo_lastBefore 6 (some .int) [] (f_Lo_lastBefore a0 a1 a2 h) 0 [(0, va_rf a0), (1, va_rf a1), (2, .int a2)] [] h := by
  unfold f_Lo_lastBefore
  refine gk_iconst (pc := 0) (-1 : Int32) d_Lo_lastBefore_0 rfl ?_
  refine gk_istore_n (pc := 1) (L' := [(3, .int (-1 : Int32)), (0, va_rf a0), (1, va_rf a1), (2, .int a2)]) d_Lo_lastBefore_1 (Nat.le_of_ble_eq_true rfl) rfl ?_
  refine gk_iconst (pc := 2) (0 : Int32) d_Lo_lastBefore_2 rfl ?_
  refine gk_istore (pc := 3) (L' := [(4, .int (0 : Int32)), (3, .int (-1 : Int32)), (0, va_rf a0), (1, va_rf a1), (2, .int a2)]) d_Lo_lastBefore_3 (Nat.le_of_ble_eq_true rfl) rfl ?_
  refine gk_weak [2, 3, 4, 1, 0] (L' := [(0, va_rf a0), (1, va_rf a1), (2, .int a2), (3, .int (-1 : Int32)), (4, .int (0 : Int32))]) rfl ?_
  exact p_Lo_lastBefore_b5 d gk_F a0 a1 a2 (-1 : Int32) (0 : Int32) h
theorem p_Lo_lastBefore (d : Nat) (a0 : Option Nat) (a1 : Option Nat) (a2 : Int32) (h : gk_H) : ∀ r h1, f_Lo_lastBefore a0 a1 a2 h = some (r, h1) → gk_M (d + 6) y_Lo_lastBefore b_Lo_lastBefore 6 (some .int) [va_rf a0, va_rf a1, .int a2] h (.inl (gv_I r)) h1 :=
  fun r h1 e => gk_M_of2 (by decide +kernel) (by simp [lv_args, gk_cat_rf, gk_catI, gk_catJ, gk_catD, gv_V, gv_I, gv_J, gv_D, gv_R]) (by simp [lg_sl, gk_cat_rf, gk_catI, gk_catJ, gk_catD, gv_V, gv_I, gv_J, gv_D, gv_R]) (w_Lo_lastBefore d a0 a1 a2 h r h1 e)
theorem d_Lo_placeOf_0 : decode b_Lo_placeOf 0 = .ok (.lload_n 2, 1) := by decide +kernel
theorem d_Lo_placeOf_1 : decode b_Lo_placeOf 1 = .ok (.lconst 0, 1) := by decide +kernel
theorem d_Lo_placeOf_2 : decode b_Lo_placeOf 2 = .ok (.lcmp, 1) := by decide +kernel
theorem d_Lo_placeOf_3 : decode b_Lo_placeOf 3 = .ok (.ifCond .ne 11, 3) := by decide +kernel
theorem d_Lo_placeOf_6 : decode b_Lo_placeOf 6 = .ok (.aload_n 0, 1) := by decide +kernel
theorem d_Lo_placeOf_7 : decode b_Lo_placeOf 7 = .ok (.aload_n 1, 1) := by decide +kernel
theorem d_Lo_placeOf_8 : decode b_Lo_placeOf 8 = .ok (.aload 4, 2) := by decide +kernel
theorem d_Lo_placeOf_10 : decode b_Lo_placeOf 10 = .ok (.invokestatic 103, 3) := by decide +kernel
theorem d_Lo_placeOf_13 : decode b_Lo_placeOf 13 = .ok (.ireturn, 1) := by decide +kernel
theorem d_Lo_placeOf_14 : decode b_Lo_placeOf 14 = .ok (.aload_n 0, 1) := by decide +kernel
theorem d_Lo_placeOf_15 : decode b_Lo_placeOf 15 = .ok (.aload_n 1, 1) := by decide +kernel
theorem d_Lo_placeOf_16 : decode b_Lo_placeOf 16 = .ok (.lload_n 2, 1) := by decide +kernel
theorem d_Lo_placeOf_17 : decode b_Lo_placeOf 17 = .ok (.lconst 0, 1) := by decide +kernel
theorem d_Lo_placeOf_18 : decode b_Lo_placeOf 18 = .ok (.lcmp, 1) := by decide +kernel
theorem d_Lo_placeOf_19 : decode b_Lo_placeOf 19 = .ok (.ifCond .le 7, 3) := by decide +kernel
theorem d_Lo_placeOf_22 : decode b_Lo_placeOf 22 = .ok (.iconst 1, 1) := by decide +kernel
theorem d_Lo_placeOf_23 : decode b_Lo_placeOf 23 = .ok (.goto 4, 3) := by decide +kernel
theorem d_Lo_placeOf_26 : decode b_Lo_placeOf 26 = .ok (.iconst (-1), 1) := by decide +kernel
theorem d_Lo_placeOf_27 : decode b_Lo_placeOf 27 = .ok (.invokestatic 107, 3) := by decide +kernel
theorem d_Lo_placeOf_30 : decode b_Lo_placeOf 30 = .ok (.ireturn, 1) := by decide +kernel
theorem p_Lo_placeOf_b27 (d : Nat)  (s0 : Option Nat) (s1 : Option Nat) (s2 : Int32) (h : gk_H) : gk_P gw_I (d + 7) y_Lo_placeOf b_Lo_placeOf 5 (some .int) [] (f_Lo_placeOf_b27  s0 s1 s2 h) 27 [] [.int s2, va_rf s1, va_rf s0] h := by
  unfold f_Lo_placeOf_b27
  refine gk_callS (pc := 27) (d := (d + 6)) (w' := gv_I) (as := [va_rf s0, va_rf s1, .int s2]) (n := 3) d_Lo_placeOf_27 rfl rfl (Nat.le_of_ble_eq_true rfl) tw_1487 tw_1488 tw_123 cw_Lo_lastBefore hy_Lo_lastBefore (Nat.le_of_ble_eq_true rfl) (p_Lo_lastBefore d s0 s1 s2 h) fun x1 h1 => ?_
  exact gk_iret (pc := 30) rfl d_Lo_placeOf_30 rfl
theorem w_Lo_placeOf (d : Nat) (a0 : Option Nat) (a1 : Option Nat) (a2 : Int64) (a3 : Option Nat) (h : gk_H) : gk_P gw_I (d + 7) y_Lo_placeOf b_Lo_placeOf 5 (some .int) [] (f_Lo_placeOf a0 a1 a2 a3 h) 0 [(0, va_rf a0), (1, va_rf a1), (2, .long a2), (4, va_rf a3)] [] h := by
  unfold f_Lo_placeOf
  refine gk_lload_n (pc := 0) 2 d_Lo_placeOf_0 rfl ?_
  refine gk_lconst (pc := 1) (0 : Int64) d_Lo_placeOf_1 rfl ?_
  refine gk_lcmp (pc := 2) d_Lo_placeOf_2 ?_
  refine gk_if_ne (pc := 3) 14 d_Lo_placeOf_3 rfl (fun _ => ?_) (fun _ => ?_)
  · refine gk_aload_n (pc := 6) 0 d_Lo_placeOf_6 rfl ?_
    refine gk_aload_n (pc := 7) 1 d_Lo_placeOf_7 rfl ?_
    refine gk_aload (pc := 8) 3 d_Lo_placeOf_8 rfl ?_
    refine gk_callS (pc := 10) (d := (d + 6)) (w' := gv_I) (as := [va_rf a0, va_rf a1, va_rf a3]) (n := 3) d_Lo_placeOf_10 rfl rfl (Nat.le_of_ble_eq_true rfl) tw_1479 tw_1480 tw_123 cw_Lo_firstSame hy_Lo_firstSame (Nat.le_of_ble_eq_true rfl) (p_Lo_firstSame d a0 a1 a3 h) fun x1 h1 => ?_
    exact gk_iret (pc := 13) rfl d_Lo_placeOf_13 rfl
  · refine gk_aload_n (pc := 14) 0 d_Lo_placeOf_14 rfl ?_
    refine gk_aload_n (pc := 15) 1 d_Lo_placeOf_15 rfl ?_
    refine gk_lload_n (pc := 16) 2 d_Lo_placeOf_16 rfl ?_
    refine gk_lconst (pc := 17) (0 : Int64) d_Lo_placeOf_17 rfl ?_
    refine gk_lcmp (pc := 18) d_Lo_placeOf_18 ?_
    refine gk_if_le (pc := 19) 26 d_Lo_placeOf_19 rfl (fun _ => ?_) (fun _ => ?_)
    · refine gk_iconst (pc := 26) (-1 : Int32) d_Lo_placeOf_26 rfl ?_
      refine gk_weak [] (L' := []) rfl ?_
      exact p_Lo_placeOf_b27 d a0 a1 (-1 : Int32) h
    · refine gk_iconst (pc := 22) (1 : Int32) d_Lo_placeOf_22 rfl ?_
      refine gk_goto (pc := 23) 27 d_Lo_placeOf_23 rfl ?_
      refine gk_weak [] (L' := []) rfl ?_
      exact p_Lo_placeOf_b27 d a0 a1 (1 : Int32) h
theorem p_Lo_placeOf (d : Nat) (a0 : Option Nat) (a1 : Option Nat) (a2 : Int64) (a3 : Option Nat) (h : gk_H) : ∀ r h1, f_Lo_placeOf a0 a1 a2 a3 h = some (r, h1) → gk_M (d + 7) y_Lo_placeOf b_Lo_placeOf 5 (some .int) [va_rf a0, va_rf a1, .long a2, va_rf a3] h (.inl (gv_I r)) h1 :=
  fun r h1 e => gk_M_of2 (by decide +kernel) (by simp [lv_args, gk_cat_rf, gk_catI, gk_catJ, gk_catD, gv_V, gv_I, gv_J, gv_D, gv_R]) (by simp [lg_sl, gk_cat_rf, gk_catI, gk_catJ, gk_catD, gv_V, gv_I, gv_J, gv_D, gv_R]) (w_Lo_placeOf d a0 a1 a2 a3 h r h1 e)
theorem d_Lo_lookedUp_0 : decode b_Lo_lookedUp 0 = .ok (.aload_n 0, 1) := by decide +kernel
theorem d_Lo_lookedUp_1 : decode b_Lo_lookedUp 1 = .ok (.invokestatic 84, 3) := by decide +kernel
theorem d_Lo_lookedUp_4 : decode b_Lo_lookedUp 4 = .ok (.astore_n 2, 1) := by decide +kernel
theorem d_Lo_lookedUp_5 : decode b_Lo_lookedUp 5 = .ok (.aload_n 0, 1) := by decide +kernel
theorem d_Lo_lookedUp_6 : decode b_Lo_lookedUp 6 = .ok (.iconst 2, 1) := by decide +kernel
theorem d_Lo_lookedUp_7 : decode b_Lo_lookedUp 7 = .ok (.invokevirtual 66, 3) := by decide +kernel
theorem d_Lo_lookedUp_10 : decode b_Lo_lookedUp 10 = .ok (.lstore_n 3, 1) := by decide +kernel
theorem d_Lo_lookedUp_11 : decode b_Lo_lookedUp 11 = .ok (.aload_n 0, 1) := by decide +kernel
theorem d_Lo_lookedUp_12 : decode b_Lo_lookedUp 12 = .ok (.iconst 3, 1) := by decide +kernel
theorem d_Lo_lookedUp_13 : decode b_Lo_lookedUp 13 = .ok (.iconst 1, 1) := by decide +kernel
theorem d_Lo_lookedUp_14 : decode b_Lo_lookedUp 14 = .ok (.invokevirtual 99, 3) := by decide +kernel
theorem d_Lo_lookedUp_17 : decode b_Lo_lookedUp 17 = .ok (.ifCond .eq 7, 3) := by decide +kernel
theorem d_Lo_lookedUp_20 : decode b_Lo_lookedUp 20 = .ok (.lconst 1, 1) := by decide +kernel
theorem d_Lo_lookedUp_21 : decode b_Lo_lookedUp 21 = .ok (.goto 4, 3) := by decide +kernel
theorem d_Lo_lookedUp_24 : decode b_Lo_lookedUp 24 = .ok (.lconst 0, 1) := by decide +kernel
theorem d_Lo_lookedUp_25 : decode b_Lo_lookedUp 25 = .ok (.lstore 5, 2) := by decide +kernel
theorem d_Lo_lookedUp_27 : decode b_Lo_lookedUp 27 = .ok (.lload_n 3, 1) := by decide +kernel
theorem d_Lo_lookedUp_28 : decode b_Lo_lookedUp 28 = .ok (.lconst 1, 1) := by decide +kernel
theorem d_Lo_lookedUp_29 : decode b_Lo_lookedUp 29 = .ok (.lcmp, 1) := by decide +kernel
theorem d_Lo_lookedUp_30 : decode b_Lo_lookedUp 30 = .ok (.ifCond .ge 8, 3) := by decide +kernel
theorem d_Lo_lookedUp_33 : decode b_Lo_lookedUp 33 = .ok (.iconst 3, 1) := by decide +kernel
theorem d_Lo_lookedUp_34 : decode b_Lo_lookedUp 34 = .ok (.invokestatic 45, 3) := by decide +kernel
theorem d_Lo_lookedUp_37 : decode b_Lo_lookedUp 37 = .ok (.areturn, 1) := by decide +kernel
theorem d_Lo_lookedUp_38 : decode b_Lo_lookedUp 38 = .ok (.lload_n 3, 1) := by decide +kernel
theorem d_Lo_lookedUp_39 : decode b_Lo_lookedUp 39 = .ok (.aload_n 1, 1) := by decide +kernel
theorem d_Lo_lookedUp_40 : decode b_Lo_lookedUp 40 = .ok (.getfield 25, 3) := by decide +kernel
theorem d_Lo_lookedUp_43 : decode b_Lo_lookedUp 43 = .ok (.i2l, 1) := by decide +kernel
theorem d_Lo_lookedUp_44 : decode b_Lo_lookedUp 44 = .ok (.lcmp, 1) := by decide +kernel
theorem d_Lo_lookedUp_45 : decode b_Lo_lookedUp 45 = .ok (.ifCond .le 8, 3) := by decide +kernel
theorem d_Lo_lookedUp_48 : decode b_Lo_lookedUp 48 = .ok (.iconst 4, 1) := by decide +kernel
theorem d_Lo_lookedUp_49 : decode b_Lo_lookedUp 49 = .ok (.invokestatic 45, 3) := by decide +kernel
theorem d_Lo_lookedUp_52 : decode b_Lo_lookedUp 52 = .ok (.areturn, 1) := by decide +kernel
theorem d_Lo_lookedUp_53 : decode b_Lo_lookedUp 53 = .ok (.aload_n 1, 1) := by decide +kernel
theorem d_Lo_lookedUp_54 : decode b_Lo_lookedUp 54 = .ok (.iconst 0, 1) := by decide +kernel
theorem d_Lo_lookedUp_55 : decode b_Lo_lookedUp 55 = .ok (.iconst 0, 1) := by decide +kernel
theorem d_Lo_lookedUp_56 : decode b_Lo_lookedUp 56 = .ok (.aload_n 1, 1) := by decide +kernel
theorem d_Lo_lookedUp_57 : decode b_Lo_lookedUp 57 = .ok (.getfield 15, 3) := by decide +kernel
theorem d_Lo_lookedUp_60 : decode b_Lo_lookedUp 60 = .ok (.iconst 1, 1) := by decide +kernel
theorem d_Lo_lookedUp_61 : decode b_Lo_lookedUp 61 = .ok (.iconst 0, 1) := by decide +kernel
theorem d_Lo_lookedUp_62 : decode b_Lo_lookedUp 62 = .ok (.invokestatic 48, 3) := by decide +kernel
theorem d_Lo_lookedUp_65 : decode b_Lo_lookedUp 65 = .ok (.astore 7, 2) := by decide +kernel
theorem d_Lo_lookedUp_67 : decode b_Lo_lookedUp 67 = .ok (.aload_n 2, 1) := by decide +kernel
theorem d_Lo_lookedUp_68 : decode b_Lo_lookedUp 68 = .ok (.aload 7, 2) := by decide +kernel
theorem d_Lo_lookedUp_70 : decode b_Lo_lookedUp 70 = .ok (.lload 5, 2) := by decide +kernel
theorem d_Lo_lookedUp_72 : decode b_Lo_lookedUp 72 = .ok (.aload_n 0, 1) := by decide +kernel
theorem d_Lo_lookedUp_73 : decode b_Lo_lookedUp 73 = .ok (.getfield 91, 3) := by decide +kernel
theorem d_Lo_lookedUp_76 : decode b_Lo_lookedUp 76 = .ok (.invokestatic 95, 3) := by decide +kernel
theorem d_Lo_lookedUp_79 : decode b_Lo_lookedUp 79 = .ok (.istore 8, 2) := by decide +kernel
theorem d_Lo_lookedUp_81 : decode b_Lo_lookedUp 81 = .ok (.iload 8, 2) := by decide +kernel
theorem d_Lo_lookedUp_83 : decode b_Lo_lookedUp 83 = .ok (.iconst (-1), 1) := by decide +kernel
theorem d_Lo_lookedUp_84 : decode b_Lo_lookedUp 84 = .ok (.if_icmp .ne 11, 3) := by decide +kernel
theorem d_Lo_lookedUp_87 : decode b_Lo_lookedUp 87 = .ok (.bipush 7, 2) := by decide +kernel
theorem d_Lo_lookedUp_89 : decode b_Lo_lookedUp 89 = .ok (.invokestatic 45, 3) := by decide +kernel
theorem d_Lo_lookedUp_92 : decode b_Lo_lookedUp 92 = .ok (.goto 13, 3) := by decide +kernel
theorem d_Lo_lookedUp_95 : decode b_Lo_lookedUp 95 = .ok (.aload_n 1, 1) := by decide +kernel
theorem d_Lo_lookedUp_96 : decode b_Lo_lookedUp 96 = .ok (.iload 8, 2) := by decide +kernel
theorem d_Lo_lookedUp_98 : decode b_Lo_lookedUp 98 = .ok (.lload_n 3, 1) := by decide +kernel
theorem d_Lo_lookedUp_99 : decode b_Lo_lookedUp 99 = .ok (.l2i, 1) := by decide +kernel
theorem d_Lo_lookedUp_100 : decode b_Lo_lookedUp 100 = .ok (.iconst 1, 1) := by decide +kernel
theorem d_Lo_lookedUp_101 : decode b_Lo_lookedUp 101 = .ok (.isub, 1) := by decide +kernel
theorem d_Lo_lookedUp_102 : decode b_Lo_lookedUp 102 = .ok (.invokevirtual 58, 3) := by decide +kernel
theorem d_Lo_lookedUp_105 : decode b_Lo_lookedUp 105 = .ok (.areturn, 1) := by decide +kernel
theorem p_Lo_lookedUp_b105 (d : Nat)  (s0 : Option Nat) (h : gk_H) : gk_P gw_R (d + 8) y_Lo_lookedUp b_Lo_lookedUp 9 (some (.object "ValueAlgebra$Value")) [] (f_Lo_lookedUp_b105  s0 h) 105 [] [va_rf s0] h := by
  unfold f_Lo_lookedUp_b105
  exact gk_aret (pc := 105) rfl d_Lo_lookedUp_105 rfl (Or.inl ⟨_, rfl⟩)
theorem p_Lo_lookedUp_b25 (d : Nat)  (v0 : Option Nat) (v1 : Option Nat) (v2 : Option Nat) (v3 : Int64) (s0 : Int64) (h : gk_H) : gk_P gw_R (d + 8) y_Lo_lookedUp b_Lo_lookedUp 9 (some (.object "ValueAlgebra$Value")) [] (f_Lo_lookedUp_b25  v0 v1 v2 v3 s0 h) 25 [(0, va_rf v0), (1, va_rf v1), (2, va_rf v2), (3, .long v3)] [.long s0] h := by
  unfold f_Lo_lookedUp_b25
  refine gk_lstore (pc := 25) (L' := [(5, .long s0), (0, va_rf v0), (1, va_rf v1), (2, va_rf v2), (3, .long v3)]) d_Lo_lookedUp_25 (Nat.le_of_ble_eq_true rfl) rfl ?_
  refine gk_lload_n (pc := 27) 4 d_Lo_lookedUp_27 rfl ?_
  refine gk_lconst (pc := 28) (1 : Int64) d_Lo_lookedUp_28 rfl ?_
  refine gk_lcmp (pc := 29) d_Lo_lookedUp_29 ?_
  refine gk_if_ge (pc := 30) 38 d_Lo_lookedUp_30 rfl (fun _ => ?_) (fun _ => ?_)
  · refine gk_lload_n (pc := 38) 4 d_Lo_lookedUp_38 rfl ?_
    refine gk_aload_n (pc := 39) 2 d_Lo_lookedUp_39 rfl ?_
    refine gk_getI (pc := 40) 2 5 d_Lo_lookedUp_40 rfl (Nat.le_of_ble_eq_true rfl) tw_216 fun x1 => ?_
    refine gk_i2l (pc := 43) d_Lo_lookedUp_43 ?_
    refine gk_lcmp (pc := 44) d_Lo_lookedUp_44 ?_
    refine gk_if_le (pc := 45) 53 d_Lo_lookedUp_45 rfl (fun _ => ?_) (fun _ => ?_)
    · refine gk_aload_n (pc := 53) 2 d_Lo_lookedUp_53 rfl ?_
      refine gk_iconst (pc := 54) (0 : Int32) d_Lo_lookedUp_54 rfl ?_
      refine gk_iconst (pc := 55) (0 : Int32) d_Lo_lookedUp_55 rfl ?_
      refine gk_aload_n (pc := 56) 2 d_Lo_lookedUp_56 rfl ?_
      refine gk_getI (pc := 57) 2 4 d_Lo_lookedUp_57 rfl (Nat.le_of_ble_eq_true rfl) tw_213 fun x2 => ?_
      refine gk_iconst (pc := 60) (1 : Int32) d_Lo_lookedUp_60 rfl ?_
      refine gk_iconst (pc := 61) (0 : Int32) d_Lo_lookedUp_61 rfl ?_
      refine gk_callS (pc := 62) (d := (d + 7)) (w' := gv_R) (as := [va_rf v1, .int (0 : Int32), .int (0 : Int32), .int x2, .int (1 : Int32), .int (0 : Int32)]) (n := 6) d_Lo_lookedUp_62 rfl rfl (Nat.le_of_ble_eq_true rfl) tw_1459 tw_1460 tw_123 cw_Lo_section hy_Lo_section (Nat.le_of_ble_eq_true rfl) (p_Lo_section (d + 4) v1 (0 : Int32) (0 : Int32) x2 (1 : Int32) (0 : Int32) h) fun x3 h1 => ?_
      refine gk_astore (pc := 65) (L' := [(7, va_rf x3), (5, .long s0), (0, va_rf v0), (1, va_rf v1), (2, va_rf v2), (3, .long v3)]) d_Lo_lookedUp_65 (Nat.le_of_ble_eq_true rfl) rfl ?_
      refine gk_aload_n (pc := 67) 4 d_Lo_lookedUp_67 rfl ?_
      refine gk_aload (pc := 68) 0 d_Lo_lookedUp_68 rfl ?_
      refine gk_lload (pc := 70) 1 d_Lo_lookedUp_70 rfl ?_
      refine gk_aload_n (pc := 72) 2 d_Lo_lookedUp_72 rfl ?_
      refine gk_getR (pc := 73) 4 8 d_Lo_lookedUp_73 rfl (Nat.le_of_ble_eq_true rfl) tw_269 fun x4 => ?_
      refine gk_callS (pc := 76) (d := (d + 7)) (w' := gv_I) (as := [va_rf v2, va_rf x3, .long s0, va_rf x4]) (n := 4) d_Lo_lookedUp_76 rfl rfl (Nat.le_of_ble_eq_true rfl) tw_1476 tw_1477 tw_123 cw_Lo_placeOf hy_Lo_placeOf (Nat.le_of_ble_eq_true rfl) (p_Lo_placeOf d v2 x3 s0 x4 h1) fun x5 h2 => ?_
      refine gk_istore (pc := 79) (L' := [(8, .int x5), (7, va_rf x3), (5, .long s0), (0, va_rf v0), (1, va_rf v1), (2, va_rf v2), (3, .long v3)]) d_Lo_lookedUp_79 (Nat.le_of_ble_eq_true rfl) (by simp [gk_s1, gk_s2, gk_cat_rf, gk_catI, gk_catJ, gk_catD] <;> decide) ?_
      refine gk_iload (pc := 81) 0 d_Lo_lookedUp_81 rfl ?_
      refine gk_iconst (pc := 83) (-1 : Int32) d_Lo_lookedUp_83 rfl ?_
      refine gk_icmp_ne (pc := 84) 95 d_Lo_lookedUp_84 rfl (fun _ => ?_) (fun _ => ?_)
      · refine gk_bipush (pc := 87) (7 : Int32) d_Lo_lookedUp_87 rfl ?_
        refine gk_callS (pc := 89) (d := (d + 7)) (w' := gv_R) (as := [.int (7 : Int32)]) (n := 1) d_Lo_lookedUp_89 rfl rfl (Nat.le_of_ble_eq_true rfl) tw_1453 tw_236 tw_97 cw_Va_ofError hy_Va_ofError (Nat.le_of_ble_eq_true rfl) (p_Va_ofError (d + 5) (7 : Int32) h2) fun x6 h3 => ?_
        refine gk_goto (pc := 92) 105 d_Lo_lookedUp_92 rfl ?_
        refine gk_weak [] (L' := []) rfl ?_
        exact p_Lo_lookedUp_b105 d x6 h3
      · refine gk_aload_n (pc := 95) 4 d_Lo_lookedUp_95 rfl ?_
        refine gk_iload (pc := 96) 0 d_Lo_lookedUp_96 rfl ?_
        refine gk_lload_n (pc := 98) 6 d_Lo_lookedUp_98 rfl ?_
        refine gk_l2i (pc := 99) d_Lo_lookedUp_99 ?_
        refine gk_iconst (pc := 100) (1 : Int32) d_Lo_lookedUp_100 rfl ?_
        refine gk_isub (pc := 101) d_Lo_lookedUp_101 ?_
        refine gk_callV (pc := 102) (d := (d + 7)) (w' := gv_R) (as := [.int x5, .int ((Int64.toInt32 v3) - (1 : Int32))]) (n := 2) 2 d_Lo_lookedUp_102 rfl rfl rfl rfl (Nat.le_of_ble_eq_true rfl) tw_1454 tw_1455 tw_1456 tw_97 cw_Va_cellIn hy_Va_cellIn (Nat.le_of_ble_eq_true rfl) (p_Va_cellIn (d + 6) v1 x5 ((Int64.toInt32 v3) - (1 : Int32)) h2) fun x7 h4 => ?_
        refine gk_weak [] (L' := []) rfl ?_
        exact p_Lo_lookedUp_b105 d x7 h4
    · refine gk_iconst (pc := 48) (4 : Int32) d_Lo_lookedUp_48 rfl ?_
      refine gk_callS (pc := 49) (d := (d + 7)) (w' := gv_R) (as := [.int (4 : Int32)]) (n := 1) d_Lo_lookedUp_49 rfl rfl (Nat.le_of_ble_eq_true rfl) tw_1453 tw_236 tw_97 cw_Va_ofError hy_Va_ofError (Nat.le_of_ble_eq_true rfl) (p_Va_ofError (d + 5) (4 : Int32) h) fun x8 h5 => ?_
      exact gk_aret (pc := 52) rfl d_Lo_lookedUp_52 rfl (Or.inl ⟨_, rfl⟩)
  · refine gk_iconst (pc := 33) (3 : Int32) d_Lo_lookedUp_33 rfl ?_
    refine gk_callS (pc := 34) (d := (d + 7)) (w' := gv_R) (as := [.int (3 : Int32)]) (n := 1) d_Lo_lookedUp_34 rfl rfl (Nat.le_of_ble_eq_true rfl) tw_1453 tw_236 tw_97 cw_Va_ofError hy_Va_ofError (Nat.le_of_ble_eq_true rfl) (p_Va_ofError (d + 5) (3 : Int32) h) fun x9 h6 => ?_
    exact gk_aret (pc := 37) rfl d_Lo_lookedUp_37 rfl (Or.inl ⟨_, rfl⟩)
theorem w_Lo_lookedUp (d : Nat) (a0 : Option Nat) (a1 : Option Nat) (h : gk_H) : gk_P gw_R (d + 8) y_Lo_lookedUp b_Lo_lookedUp 9 (some (.object "ValueAlgebra$Value")) [] (f_Lo_lookedUp a0 a1 h) 0 [(0, va_rf a0), (1, va_rf a1)] [] h := by
  unfold f_Lo_lookedUp
  refine gk_aload_n (pc := 0) 0 d_Lo_lookedUp_0 rfl ?_
  refine gk_callS (pc := 1) (d := (d + 7)) (w' := gv_R) (as := [va_rf a0]) (n := 1) d_Lo_lookedUp_1 rfl rfl (Nat.le_of_ble_eq_true rfl) tw_1468 tw_1469 tw_123 cw_Lo_wanted hy_Lo_wanted (Nat.le_of_ble_eq_true rfl) (p_Lo_wanted (d + 4) a0 h) fun x1 h1 => ?_
  refine gk_astore_n (pc := 4) (L' := [(2, va_rf x1), (0, va_rf a0), (1, va_rf a1)]) d_Lo_lookedUp_4 (Nat.le_of_ble_eq_true rfl) (by simp [gk_s1, gk_s2, gk_cat_rf, gk_catI, gk_catJ, gk_catD] <;> decide) ?_
  refine gk_aload_n (pc := 5) 1 d_Lo_lookedUp_5 rfl ?_
  refine gk_iconst (pc := 6) (2 : Int32) d_Lo_lookedUp_6 rfl ?_
  refine gk_callV (pc := 7) (d := (d + 7)) (w' := gv_J) (as := [.int (2 : Int32)]) (n := 1) 4 d_Lo_lookedUp_7 rfl rfl rfl rfl (Nat.le_of_ble_eq_true rfl) tw_1450 tw_1065 tw_1066 tw_96 cw_Ar_whole hy_Ar_whole (Nat.le_of_ble_eq_true rfl) (p_Ar_whole d a0 (2 : Int32) h1) fun x2 h2 => ?_
  refine gk_lstore_n (pc := 10) (L' := [(3, .long x2), (2, va_rf x1), (0, va_rf a0), (1, va_rf a1)]) d_Lo_lookedUp_10 (Nat.le_of_ble_eq_true rfl) (by simp [gk_s1, gk_s2, gk_cat_rf, gk_catI, gk_catJ, gk_catD] <;> decide) ?_
  refine gk_aload_n (pc := 11) 2 d_Lo_lookedUp_11 rfl ?_
  refine gk_iconst (pc := 12) (3 : Int32) d_Lo_lookedUp_12 rfl ?_
  refine gk_iconst (pc := 13) (1 : Int32) d_Lo_lookedUp_13 rfl ?_
  refine gk_callV (pc := 14) (d := (d + 7)) (w' := gv_I) (as := [.int (3 : Int32), .int (1 : Int32)]) (n := 2) 4 d_Lo_lookedUp_14 rfl rfl rfl rfl (Nat.le_of_ble_eq_true rfl) tw_1493 tw_1494 tw_1495 tw_96 cw_Ar_truthOr hy_Ar_truthOr (Nat.le_of_ble_eq_true rfl) (p_Ar_truthOr (d + 1) a0 (3 : Int32) (1 : Int32) h2) fun x3 h3 => ?_
  refine gk_if_eq (pc := 17) 24 d_Lo_lookedUp_17 rfl (fun _ => ?_) (fun _ => ?_)
  · refine gk_lconst (pc := 24) (0 : Int64) d_Lo_lookedUp_24 rfl ?_
    refine gk_weak [2, 3, 1, 0] (L' := [(0, va_rf a0), (1, va_rf a1), (2, va_rf x1), (3, .long x2)]) rfl ?_
    exact p_Lo_lookedUp_b25 d a0 a1 x1 x2 (0 : Int64) h3
  · refine gk_lconst (pc := 20) (1 : Int64) d_Lo_lookedUp_20 rfl ?_
    refine gk_goto (pc := 21) 25 d_Lo_lookedUp_21 rfl ?_
    refine gk_weak [2, 3, 1, 0] (L' := [(0, va_rf a0), (1, va_rf a1), (2, va_rf x1), (3, .long x2)]) rfl ?_
    exact p_Lo_lookedUp_b25 d a0 a1 x1 x2 (1 : Int64) h3
theorem p_Lo_lookedUp (d : Nat) (a0 : Option Nat) (a1 : Option Nat) (h : gk_H) : ∀ r h1, f_Lo_lookedUp a0 a1 h = some (r, h1) → gk_M (d + 8) y_Lo_lookedUp b_Lo_lookedUp 9 (some (.object "ValueAlgebra$Value")) [va_rf a0, va_rf a1] h (.inl (gv_R r)) h1 :=
  fun r h1 e => gk_M_of2 (by decide +kernel) (by simp [lv_args, gk_cat_rf, gk_catI, gk_catJ, gk_catD, gv_V, gv_I, gv_J, gv_D, gv_R]) (by simp [lg_sl, gk_cat_rf, gk_catI, gk_catJ, gk_catD, gv_V, gv_I, gv_J, gv_D, gv_R]) (w_Lo_lookedUp d a0 a1 h r h1 e)
theorem d_Va_isLine_0 : decode b_Va_isLine 0 = .ok (.aload_n 0, 1) := by decide +kernel
theorem d_Va_isLine_1 : decode b_Va_isLine 1 = .ok (.getfield 26, 3) := by decide +kernel
theorem d_Va_isLine_4 : decode b_Va_isLine 4 = .ok (.iconst 1, 1) := by decide +kernel
theorem d_Va_isLine_5 : decode b_Va_isLine 5 = .ok (.if_icmp .eq 11, 3) := by decide +kernel
theorem d_Va_isLine_8 : decode b_Va_isLine 8 = .ok (.aload_n 0, 1) := by decide +kernel
theorem d_Va_isLine_9 : decode b_Va_isLine 9 = .ok (.getfield 29, 3) := by decide +kernel
theorem d_Va_isLine_12 : decode b_Va_isLine 12 = .ok (.iconst 1, 1) := by decide +kernel
theorem d_Va_isLine_13 : decode b_Va_isLine 13 = .ok (.if_icmp .ne 7, 3) := by decide +kernel
theorem d_Va_isLine_16 : decode b_Va_isLine 16 = .ok (.iconst 1, 1) := by decide +kernel
theorem d_Va_isLine_17 : decode b_Va_isLine 17 = .ok (.goto 4, 3) := by decide +kernel
theorem d_Va_isLine_20 : decode b_Va_isLine 20 = .ok (.iconst 0, 1) := by decide +kernel
theorem d_Va_isLine_21 : decode b_Va_isLine 21 = .ok (.ireturn, 1) := by decide +kernel
theorem p_Va_isLine_b21 (d : Nat)  (s0 : Int32) (h : gk_H) : gk_P gw_I d y_Va_isLine b_Va_isLine 1 (some .boolean) [] (f_Va_isLine_b21  s0 h) 21 [] [.int s0] h := by
  unfold f_Va_isLine_b21
  exact gk_zret (pc := 21) rfl d_Va_isLine_21 rfl
theorem p_Va_isLine_b16 (d : Nat)   (h : gk_H) : gk_P gw_I d y_Va_isLine b_Va_isLine 1 (some .boolean) [] (f_Va_isLine_b16   h) 16 [] [] h := by
  unfold f_Va_isLine_b16
  refine gk_iconst (pc := 16) (1 : Int32) d_Va_isLine_16 rfl ?_
  refine gk_goto (pc := 17) 21 d_Va_isLine_17 rfl ?_
  exact p_Va_isLine_b21 d (1 : Int32) h
theorem w_Va_isLine (d : Nat) (a0 : Option Nat) (h : gk_H) : gk_P gw_I d y_Va_isLine b_Va_isLine 1 (some .boolean) [] (f_Va_isLine a0 h) 0 [(0, va_rf a0)] [] h := by
  unfold f_Va_isLine
  refine gk_aload_n (pc := 0) 0 d_Va_isLine_0 rfl ?_
  refine gk_getI (pc := 1) 2 4 d_Va_isLine_1 rfl (Nat.le_of_ble_eq_true rfl) tw_212 fun x1 => ?_
  refine gk_iconst (pc := 4) (1 : Int32) d_Va_isLine_4 rfl ?_
  refine gk_icmp_eq (pc := 5) 16 d_Va_isLine_5 rfl (fun _ => ?_) (fun _ => ?_)
  · refine gk_weak [] (L' := []) rfl ?_
    exact p_Va_isLine_b16 d h
  · refine gk_aload_n (pc := 8) 0 d_Va_isLine_8 rfl ?_
    refine gk_getI (pc := 9) 2 5 d_Va_isLine_9 rfl (Nat.le_of_ble_eq_true rfl) tw_215 fun x2 => ?_
    refine gk_iconst (pc := 12) (1 : Int32) d_Va_isLine_12 rfl ?_
    refine gk_icmp_ne (pc := 13) 20 d_Va_isLine_13 rfl (fun _ => ?_) (fun _ => ?_)
    · refine gk_weak [] (L' := []) rfl ?_
      exact p_Va_isLine_b16 d h
    · refine gk_iconst (pc := 20) (0 : Int32) d_Va_isLine_20 rfl ?_
      refine gk_weak [] (L' := []) rfl ?_
      exact p_Va_isLine_b21 d (0 : Int32) h
theorem p_Va_isLine (d : Nat) (a0 : Option Nat) (h : gk_H) : ∀ r h1, f_Va_isLine a0 h = some (r, h1) → gk_M d y_Va_isLine b_Va_isLine 1 (some .boolean) [va_rf a0] h (.inl (gv_I r)) h1 :=
  fun r h1 e => gk_M_of2 (by decide +kernel) (by simp [lv_args, gk_cat_rf, gk_catI, gk_catJ, gk_catD, gv_V, gv_I, gv_J, gv_D, gv_R]) (by simp [lg_sl, gk_cat_rf, gk_catI, gk_catJ, gk_catD, gv_V, gv_I, gv_J, gv_D, gv_R]) (w_Va_isLine d a0 h r h1 e)
theorem d_Lo_match_0 : decode b_Lo_match 0 = .ok (.aload_n 0, 1) := by decide +kernel
theorem d_Lo_match_1 : decode b_Lo_match 1 = .ok (.invokestatic 84, 3) := by decide +kernel
theorem d_Lo_match_4 : decode b_Lo_match 4 = .ok (.astore_n 1, 1) := by decide +kernel
theorem d_Lo_match_5 : decode b_Lo_match 5 = .ok (.aload_n 0, 1) := by decide +kernel
theorem d_Lo_match_6 : decode b_Lo_match 6 = .ok (.iconst 1, 1) := by decide +kernel
theorem d_Lo_match_7 : decode b_Lo_match 7 = .ok (.invokevirtual 9, 3) := by decide +kernel
theorem d_Lo_match_10 : decode b_Lo_match 10 = .ok (.astore_n 2, 1) := by decide +kernel
theorem d_Lo_match_11 : decode b_Lo_match 11 = .ok (.aload_n 0, 1) := by decide +kernel
theorem d_Lo_match_12 : decode b_Lo_match 12 = .ok (.iconst 2, 1) := by decide +kernel
theorem d_Lo_match_13 : decode b_Lo_match 13 = .ok (.lconst 1, 1) := by decide +kernel
theorem d_Lo_match_14 : decode b_Lo_match 14 = .ok (.invokevirtual 70, 3) := by decide +kernel
theorem d_Lo_match_17 : decode b_Lo_match 17 = .ok (.lstore_n 3, 1) := by decide +kernel
theorem d_Lo_match_18 : decode b_Lo_match 18 = .ok (.aload_n 2, 1) := by decide +kernel
theorem d_Lo_match_19 : decode b_Lo_match 19 = .ok (.invokevirtual 87, 3) := by decide +kernel
theorem d_Lo_match_22 : decode b_Lo_match 22 = .ok (.ifCond .ne 9, 3) := by decide +kernel
theorem d_Lo_match_25 : decode b_Lo_match 25 = .ok (.bipush 7, 2) := by decide +kernel
theorem d_Lo_match_27 : decode b_Lo_match 27 = .ok (.invokestatic 45, 3) := by decide +kernel
theorem d_Lo_match_30 : decode b_Lo_match 30 = .ok (.areturn, 1) := by decide +kernel
theorem d_Lo_match_31 : decode b_Lo_match 31 = .ok (.aload_n 1, 1) := by decide +kernel
theorem d_Lo_match_32 : decode b_Lo_match 32 = .ok (.aload_n 2, 1) := by decide +kernel
theorem d_Lo_match_33 : decode b_Lo_match 33 = .ok (.lload_n 3, 1) := by decide +kernel
theorem d_Lo_match_34 : decode b_Lo_match 34 = .ok (.aload_n 0, 1) := by decide +kernel
theorem d_Lo_match_35 : decode b_Lo_match 35 = .ok (.getfield 91, 3) := by decide +kernel
theorem d_Lo_match_38 : decode b_Lo_match 38 = .ok (.invokestatic 95, 3) := by decide +kernel
theorem d_Lo_match_41 : decode b_Lo_match 41 = .ok (.istore 5, 2) := by decide +kernel
theorem d_Lo_match_43 : decode b_Lo_match 43 = .ok (.iload 5, 2) := by decide +kernel
theorem d_Lo_match_45 : decode b_Lo_match 45 = .ok (.iconst (-1), 1) := by decide +kernel
theorem d_Lo_match_46 : decode b_Lo_match 46 = .ok (.if_icmp .ne 11, 3) := by decide +kernel
theorem d_Lo_match_49 : decode b_Lo_match 49 = .ok (.bipush 7, 2) := by decide +kernel
theorem d_Lo_match_51 : decode b_Lo_match 51 = .ok (.invokestatic 45, 3) := by decide +kernel
theorem d_Lo_match_54 : decode b_Lo_match 54 = .ok (.goto 11, 3) := by decide +kernel
theorem d_Lo_match_57 : decode b_Lo_match 57 = .ok (.iload 5, 2) := by decide +kernel
theorem d_Lo_match_59 : decode b_Lo_match 59 = .ok (.iconst 1, 1) := by decide +kernel
theorem d_Lo_match_60 : decode b_Lo_match 60 = .ok (.iadd, 1) := by decide +kernel
theorem d_Lo_match_61 : decode b_Lo_match 61 = .ok (.i2d, 1) := by decide +kernel
theorem d_Lo_match_62 : decode b_Lo_match 62 = .ok (.invokestatic 21, 3) := by decide +kernel
theorem d_Lo_match_65 : decode b_Lo_match 65 = .ok (.areturn, 1) := by decide +kernel
theorem p_Lo_match_b65 (d : Nat)  (s0 : Option Nat) (h : gk_H) : gk_P gw_R (d + 9) y_Lo_match b_Lo_match 6 (some (.object "ValueAlgebra$Value")) [] (f_Lo_match_b65  s0 h) 65 [] [va_rf s0] h := by
  unfold f_Lo_match_b65
  exact gk_aret (pc := 65) rfl d_Lo_match_65 rfl (Or.inl ⟨_, rfl⟩)
theorem w_Lo_match (d : Nat) (a0 : Option Nat) (h : gk_H) : gk_P gw_R (d + 9) y_Lo_match b_Lo_match 6 (some (.object "ValueAlgebra$Value")) [] (f_Lo_match a0 h) 0 [(0, va_rf a0)] [] h := by
  unfold f_Lo_match
  refine gk_aload_n (pc := 0) 0 d_Lo_match_0 rfl ?_
  refine gk_callS (pc := 1) (d := (d + 8)) (w' := gv_R) (as := [va_rf a0]) (n := 1) d_Lo_match_1 rfl rfl (Nat.le_of_ble_eq_true rfl) tw_1468 tw_1469 tw_123 cw_Lo_wanted hy_Lo_wanted (Nat.le_of_ble_eq_true rfl) (p_Lo_wanted (d + 5) a0 h) fun x1 h1 => ?_
  refine gk_astore_n (pc := 4) (L' := [(1, va_rf x1), (0, va_rf a0)]) d_Lo_match_4 (Nat.le_of_ble_eq_true rfl) (by simp [gk_s1, gk_s2, gk_cat_rf, gk_catI, gk_catJ, gk_catD] <;> decide) ?_
  refine gk_aload_n (pc := 5) 1 d_Lo_match_5 rfl ?_
  refine gk_iconst (pc := 6) (1 : Int32) d_Lo_match_6 rfl ?_
  refine gk_callV (pc := 7) (d := (d + 8)) (w' := gv_R) (as := [.int (1 : Int32)]) (n := 1) 4 d_Lo_match_7 rfl rfl rfl rfl (Nat.le_of_ble_eq_true rfl) tw_1445 tw_1034 tw_1035 tw_96 cw_Ar_raw hy_Ar_raw (Nat.le_of_ble_eq_true rfl) (p_Ar_raw (d + 8) a0 (1 : Int32) h1) fun x2 h2 => ?_
  refine gk_astore_n (pc := 10) (L' := [(2, va_rf x2), (1, va_rf x1), (0, va_rf a0)]) d_Lo_match_10 (Nat.le_of_ble_eq_true rfl) (by simp [gk_s1, gk_s2, gk_cat_rf, gk_catI, gk_catJ, gk_catD] <;> decide) ?_
  refine gk_aload_n (pc := 11) 2 d_Lo_match_11 rfl ?_
  refine gk_iconst (pc := 12) (2 : Int32) d_Lo_match_12 rfl ?_
  refine gk_lconst (pc := 13) (1 : Int64) d_Lo_match_13 rfl ?_
  refine gk_callV (pc := 14) (d := (d + 8)) (w' := gv_J) (as := [.int (2 : Int32), .long (1 : Int64)]) (n := 2) 4 d_Lo_match_14 rfl rfl rfl rfl (Nat.le_of_ble_eq_true rfl) tw_1451 tw_1286 tw_1287 tw_96 cw_Ar_wholeOr hy_Ar_wholeOr (Nat.le_of_ble_eq_true rfl) (p_Ar_wholeOr d a0 (2 : Int32) (1 : Int64) h2) fun x3 h3 => ?_
  refine gk_lstore_n (pc := 17) (L' := [(3, .long x3), (2, va_rf x2), (1, va_rf x1), (0, va_rf a0)]) d_Lo_match_17 (Nat.le_of_ble_eq_true rfl) (by simp [gk_s1, gk_s2, gk_cat_rf, gk_catI, gk_catJ, gk_catD] <;> decide) ?_
  refine gk_aload_n (pc := 18) 1 d_Lo_match_18 rfl ?_
  refine gk_callV (pc := 19) (d := (d + 8)) (w' := gv_I) (as := []) (n := 0) 2 d_Lo_match_19 rfl rfl rfl rfl (Nat.le_of_ble_eq_true rfl) tw_1472 tw_1473 tw_1474 tw_97 cw_Va_isLine hy_Va_isLine (Nat.le_of_ble_eq_true rfl) (p_Va_isLine (d + 8) x2 h3) fun x4 h4 => ?_
  refine gk_if_ne (pc := 22) 31 d_Lo_match_22 rfl (fun _ => ?_) (fun _ => ?_)
  · refine gk_bipush (pc := 25) (7 : Int32) d_Lo_match_25 rfl ?_
    refine gk_callS (pc := 27) (d := (d + 8)) (w' := gv_R) (as := [.int (7 : Int32)]) (n := 1) d_Lo_match_27 rfl rfl (Nat.le_of_ble_eq_true rfl) tw_1453 tw_236 tw_97 cw_Va_ofError hy_Va_ofError (Nat.le_of_ble_eq_true rfl) (p_Va_ofError (d + 6) (7 : Int32) h4) fun x5 h5 => ?_
    exact gk_aret (pc := 30) rfl d_Lo_match_30 rfl (Or.inl ⟨_, rfl⟩)
  · refine gk_aload_n (pc := 31) 2 d_Lo_match_31 rfl ?_
    refine gk_aload_n (pc := 32) 1 d_Lo_match_32 rfl ?_
    refine gk_lload_n (pc := 33) 0 d_Lo_match_33 rfl ?_
    refine gk_aload_n (pc := 34) 3 d_Lo_match_34 rfl ?_
    refine gk_getR (pc := 35) 4 8 d_Lo_match_35 rfl (Nat.le_of_ble_eq_true rfl) tw_269 fun x6 => ?_
    refine gk_callS (pc := 38) (d := (d + 8)) (w' := gv_I) (as := [va_rf x1, va_rf x2, .long x3, va_rf x6]) (n := 4) d_Lo_match_38 rfl rfl (Nat.le_of_ble_eq_true rfl) tw_1476 tw_1477 tw_123 cw_Lo_placeOf hy_Lo_placeOf (Nat.le_of_ble_eq_true rfl) (p_Lo_placeOf (d + 1) x1 x2 x3 x6 h4) fun x7 h6 => ?_
    refine gk_istore (pc := 41) (L' := [(5, .int x7), (3, .long x3), (2, va_rf x2), (1, va_rf x1), (0, va_rf a0)]) d_Lo_match_41 (Nat.le_of_ble_eq_true rfl) rfl ?_
    refine gk_iload (pc := 43) 0 d_Lo_match_43 rfl ?_
    refine gk_iconst (pc := 45) (-1 : Int32) d_Lo_match_45 rfl ?_
    refine gk_icmp_ne (pc := 46) 57 d_Lo_match_46 rfl (fun _ => ?_) (fun _ => ?_)
    · refine gk_bipush (pc := 49) (7 : Int32) d_Lo_match_49 rfl ?_
      refine gk_callS (pc := 51) (d := (d + 8)) (w' := gv_R) (as := [.int (7 : Int32)]) (n := 1) d_Lo_match_51 rfl rfl (Nat.le_of_ble_eq_true rfl) tw_1453 tw_236 tw_97 cw_Va_ofError hy_Va_ofError (Nat.le_of_ble_eq_true rfl) (p_Va_ofError (d + 6) (7 : Int32) h6) fun x8 h7 => ?_
      refine gk_goto (pc := 54) 65 d_Lo_match_54 rfl ?_
      refine gk_weak [] (L' := []) rfl ?_
      exact p_Lo_match_b65 d x8 h7
    · refine gk_iload (pc := 57) 0 d_Lo_match_57 rfl ?_
      refine gk_iconst (pc := 59) (1 : Int32) d_Lo_match_59 rfl ?_
      refine gk_iadd (pc := 60) d_Lo_match_60 ?_
      refine gk_i2d (pc := 61) d_Lo_match_61 ?_
      refine gk_callS (pc := 62) (d := (d + 8)) (w' := gv_R) (as := [.double (FP.i2d (x7 + (1 : Int32)))]) (n := 1) d_Lo_match_62 rfl rfl (Nat.le_of_ble_eq_true rfl) tw_1446 tw_317 tw_97 cw_Va_ofNumber hy_Va_ofNumber (Nat.le_of_ble_eq_true rfl) (p_Va_ofNumber (d + 6) (FP.i2d (x7 + (1 : Int32))) h6) fun x9 h8 => ?_
      refine gk_weak [] (L' := []) rfl ?_
      exact p_Lo_match_b65 d x9 h8
theorem p_Lo_match (d : Nat) (a0 : Option Nat) (h : gk_H) : ∀ r h1, f_Lo_match a0 h = some (r, h1) → gk_M (d + 9) y_Lo_match b_Lo_match 6 (some (.object "ValueAlgebra$Value")) [va_rf a0] h (.inl (gv_R r)) h1 :=
  fun r h1 e => gk_M_of2 (by decide +kernel) (by simp [lv_args, gk_cat_rf, gk_catI, gk_catJ, gk_catD, gv_V, gv_I, gv_J, gv_D, gv_R]) (by simp [lg_sl, gk_cat_rf, gk_catI, gk_catJ, gk_catD, gv_V, gv_I, gv_J, gv_D, gv_R]) (w_Lo_match d a0 h r h1 e)
theorem d_Lo_index_0 : decode b_Lo_index 0 = .ok (.aload_n 0, 1) := by decide +kernel
theorem d_Lo_index_1 : decode b_Lo_index 1 = .ok (.iconst 0, 1) := by decide +kernel
theorem d_Lo_index_2 : decode b_Lo_index 2 = .ok (.invokevirtual 9, 3) := by decide +kernel
theorem d_Lo_index_5 : decode b_Lo_index 5 = .ok (.astore_n 1, 1) := by decide +kernel
theorem d_Lo_index_6 : decode b_Lo_index 6 = .ok (.aload_n 0, 1) := by decide +kernel
theorem d_Lo_index_7 : decode b_Lo_index 7 = .ok (.iconst 1, 1) := by decide +kernel
theorem d_Lo_index_8 : decode b_Lo_index 8 = .ok (.invokevirtual 66, 3) := by decide +kernel
theorem d_Lo_index_11 : decode b_Lo_index 11 = .ok (.lstore_n 2, 1) := by decide +kernel
theorem d_Lo_index_12 : decode b_Lo_index 12 = .ok (.aload_n 0, 1) := by decide +kernel
theorem d_Lo_index_13 : decode b_Lo_index 13 = .ok (.iconst 2, 1) := by decide +kernel
theorem d_Lo_index_14 : decode b_Lo_index 14 = .ok (.lconst 0, 1) := by decide +kernel
theorem d_Lo_index_15 : decode b_Lo_index 15 = .ok (.invokevirtual 70, 3) := by decide +kernel
theorem d_Lo_index_18 : decode b_Lo_index 18 = .ok (.lstore 4, 2) := by decide +kernel
theorem d_Lo_index_20 : decode b_Lo_index 20 = .ok (.aload_n 0, 1) := by decide +kernel
theorem d_Lo_index_21 : decode b_Lo_index 21 = .ok (.invokevirtual 74, 3) := by decide +kernel
theorem d_Lo_index_24 : decode b_Lo_index 24 = .ok (.iconst 2, 1) := by decide +kernel
theorem d_Lo_index_25 : decode b_Lo_index 25 = .ok (.if_icmp .ne 19, 3) := by decide +kernel
theorem d_Lo_index_28 : decode b_Lo_index 28 = .ok (.aload_n 1, 1) := by decide +kernel
theorem d_Lo_index_29 : decode b_Lo_index 29 = .ok (.getfield 15, 3) := by decide +kernel
theorem d_Lo_index_32 : decode b_Lo_index 32 = .ok (.iconst 1, 1) := by decide +kernel
theorem d_Lo_index_33 : decode b_Lo_index 33 = .ok (.if_icmp .ne 11, 3) := by decide +kernel
theorem d_Lo_index_36 : decode b_Lo_index 36 = .ok (.lload_n 2, 1) := by decide +kernel
theorem d_Lo_index_37 : decode b_Lo_index 37 = .ok (.lstore 4, 2) := by decide +kernel
theorem d_Lo_index_39 : decode b_Lo_index 39 = .ok (.lconst 1, 1) := by decide +kernel
theorem d_Lo_index_40 : decode b_Lo_index 40 = .ok (.lstore_n 2, 1) := by decide +kernel
theorem d_Lo_index_41 : decode b_Lo_index 41 = .ok (.goto 22, 3) := by decide +kernel
theorem d_Lo_index_44 : decode b_Lo_index 44 = .ok (.aload_n 0, 1) := by decide +kernel
theorem d_Lo_index_45 : decode b_Lo_index 45 = .ok (.invokevirtual 74, 3) := by decide +kernel
theorem d_Lo_index_48 : decode b_Lo_index 48 = .ok (.iconst 2, 1) := by decide +kernel
theorem d_Lo_index_49 : decode b_Lo_index 49 = .ok (.if_icmp .ne 14, 3) := by decide +kernel
theorem d_Lo_index_52 : decode b_Lo_index 52 = .ok (.aload_n 1, 1) := by decide +kernel
theorem d_Lo_index_53 : decode b_Lo_index 53 = .ok (.getfield 25, 3) := by decide +kernel
theorem d_Lo_index_56 : decode b_Lo_index 56 = .ok (.iconst 1, 1) := by decide +kernel
theorem d_Lo_index_57 : decode b_Lo_index 57 = .ok (.if_icmp .ne 6, 3) := by decide +kernel
theorem d_Lo_index_60 : decode b_Lo_index 60 = .ok (.lconst 1, 1) := by decide +kernel
theorem d_Lo_index_61 : decode b_Lo_index 61 = .ok (.lstore 4, 2) := by decide +kernel
theorem d_Lo_index_63 : decode b_Lo_index 63 = .ok (.lload_n 2, 1) := by decide +kernel
theorem d_Lo_index_64 : decode b_Lo_index 64 = .ok (.lconst 0, 1) := by decide +kernel
theorem d_Lo_index_65 : decode b_Lo_index 65 = .ok (.lcmp, 1) := by decide +kernel
theorem d_Lo_index_66 : decode b_Lo_index 66 = .ok (.ifCond .lt 10, 3) := by decide +kernel
theorem d_Lo_index_69 : decode b_Lo_index 69 = .ok (.lload 4, 2) := by decide +kernel
theorem d_Lo_index_71 : decode b_Lo_index 71 = .ok (.lconst 0, 1) := by decide +kernel
theorem d_Lo_index_72 : decode b_Lo_index 72 = .ok (.lcmp, 1) := by decide +kernel
theorem d_Lo_index_73 : decode b_Lo_index 73 = .ok (.ifCond .ge 8, 3) := by decide +kernel
theorem d_Lo_index_76 : decode b_Lo_index 76 = .ok (.iconst 3, 1) := by decide +kernel
theorem d_Lo_index_77 : decode b_Lo_index 77 = .ok (.invokestatic 45, 3) := by decide +kernel
theorem d_Lo_index_80 : decode b_Lo_index 80 = .ok (.areturn, 1) := by decide +kernel
theorem d_Lo_index_81 : decode b_Lo_index 81 = .ok (.lload_n 2, 1) := by decide +kernel
theorem d_Lo_index_82 : decode b_Lo_index 82 = .ok (.aload_n 1, 1) := by decide +kernel
theorem d_Lo_index_83 : decode b_Lo_index 83 = .ok (.getfield 15, 3) := by decide +kernel
theorem d_Lo_index_86 : decode b_Lo_index 86 = .ok (.i2l, 1) := by decide +kernel
theorem d_Lo_index_87 : decode b_Lo_index 87 = .ok (.lcmp, 1) := by decide +kernel
theorem d_Lo_index_88 : decode b_Lo_index 88 = .ok (.ifCond .gt 14, 3) := by decide +kernel
theorem d_Lo_index_91 : decode b_Lo_index 91 = .ok (.lload 4, 2) := by decide +kernel
theorem d_Lo_index_93 : decode b_Lo_index 93 = .ok (.aload_n 1, 1) := by decide +kernel
theorem d_Lo_index_94 : decode b_Lo_index 94 = .ok (.getfield 25, 3) := by decide +kernel
theorem d_Lo_index_97 : decode b_Lo_index 97 = .ok (.i2l, 1) := by decide +kernel
theorem d_Lo_index_98 : decode b_Lo_index 98 = .ok (.lcmp, 1) := by decide +kernel
theorem d_Lo_index_99 : decode b_Lo_index 99 = .ok (.ifCond .le 8, 3) := by decide +kernel
theorem d_Lo_index_102 : decode b_Lo_index 102 = .ok (.iconst 4, 1) := by decide +kernel
theorem d_Lo_index_103 : decode b_Lo_index 103 = .ok (.invokestatic 45, 3) := by decide +kernel
theorem d_Lo_index_106 : decode b_Lo_index 106 = .ok (.areturn, 1) := by decide +kernel
theorem d_Lo_index_107 : decode b_Lo_index 107 = .ok (.lload_n 2, 1) := by decide +kernel
theorem d_Lo_index_108 : decode b_Lo_index 108 = .ok (.lconst 0, 1) := by decide +kernel
theorem d_Lo_index_109 : decode b_Lo_index 109 = .ok (.lcmp, 1) := by decide +kernel
theorem d_Lo_index_110 : decode b_Lo_index 110 = .ok (.ifCond .le 24, 3) := by decide +kernel
theorem d_Lo_index_113 : decode b_Lo_index 113 = .ok (.lload 4, 2) := by decide +kernel
theorem d_Lo_index_115 : decode b_Lo_index 115 = .ok (.lconst 0, 1) := by decide +kernel
theorem d_Lo_index_116 : decode b_Lo_index 116 = .ok (.lcmp, 1) := by decide +kernel
theorem d_Lo_index_117 : decode b_Lo_index 117 = .ok (.ifCond .le 17, 3) := by decide +kernel
theorem d_Lo_index_120 : decode b_Lo_index 120 = .ok (.aload_n 1, 1) := by decide +kernel
theorem d_Lo_index_121 : decode b_Lo_index 121 = .ok (.lload_n 2, 1) := by decide +kernel
theorem d_Lo_index_122 : decode b_Lo_index 122 = .ok (.l2i, 1) := by decide +kernel
theorem d_Lo_index_123 : decode b_Lo_index 123 = .ok (.iconst 1, 1) := by decide +kernel
theorem d_Lo_index_124 : decode b_Lo_index 124 = .ok (.isub, 1) := by decide +kernel
theorem d_Lo_index_125 : decode b_Lo_index 125 = .ok (.lload 4, 2) := by decide +kernel
theorem d_Lo_index_127 : decode b_Lo_index 127 = .ok (.l2i, 1) := by decide +kernel
theorem d_Lo_index_128 : decode b_Lo_index 128 = .ok (.iconst 1, 1) := by decide +kernel
theorem d_Lo_index_129 : decode b_Lo_index 129 = .ok (.isub, 1) := by decide +kernel
theorem d_Lo_index_130 : decode b_Lo_index 130 = .ok (.invokevirtual 58, 3) := by decide +kernel
theorem d_Lo_index_133 : decode b_Lo_index 133 = .ok (.areturn, 1) := by decide +kernel
theorem d_Lo_index_134 : decode b_Lo_index 134 = .ok (.aload_n 1, 1) := by decide +kernel
theorem d_Lo_index_135 : decode b_Lo_index 135 = .ok (.lload_n 2, 1) := by decide +kernel
theorem d_Lo_index_136 : decode b_Lo_index 136 = .ok (.lconst 0, 1) := by decide +kernel
theorem d_Lo_index_137 : decode b_Lo_index 137 = .ok (.lcmp, 1) := by decide +kernel
theorem d_Lo_index_138 : decode b_Lo_index 138 = .ok (.ifCond .le 10, 3) := by decide +kernel
theorem d_Lo_index_141 : decode b_Lo_index 141 = .ok (.lload_n 2, 1) := by decide +kernel
theorem d_Lo_index_142 : decode b_Lo_index 142 = .ok (.l2i, 1) := by decide +kernel
theorem d_Lo_index_143 : decode b_Lo_index 143 = .ok (.iconst 1, 1) := by decide +kernel
theorem d_Lo_index_144 : decode b_Lo_index 144 = .ok (.isub, 1) := by decide +kernel
theorem d_Lo_index_145 : decode b_Lo_index 145 = .ok (.goto 4, 3) := by decide +kernel
theorem d_Lo_index_148 : decode b_Lo_index 148 = .ok (.iconst 0, 1) := by decide +kernel
theorem d_Lo_index_149 : decode b_Lo_index 149 = .ok (.lload 4, 2) := by decide +kernel
theorem d_Lo_index_151 : decode b_Lo_index 151 = .ok (.lconst 0, 1) := by decide +kernel
theorem d_Lo_index_152 : decode b_Lo_index 152 = .ok (.lcmp, 1) := by decide +kernel
theorem d_Lo_index_153 : decode b_Lo_index 153 = .ok (.ifCond .le 11, 3) := by decide +kernel
theorem d_Lo_index_156 : decode b_Lo_index 156 = .ok (.lload 4, 2) := by decide +kernel
theorem d_Lo_index_158 : decode b_Lo_index 158 = .ok (.l2i, 1) := by decide +kernel
theorem d_Lo_index_159 : decode b_Lo_index 159 = .ok (.iconst 1, 1) := by decide +kernel
theorem d_Lo_index_160 : decode b_Lo_index 160 = .ok (.isub, 1) := by decide +kernel
theorem d_Lo_index_161 : decode b_Lo_index 161 = .ok (.goto 4, 3) := by decide +kernel
theorem d_Lo_index_164 : decode b_Lo_index 164 = .ok (.iconst 0, 1) := by decide +kernel
theorem d_Lo_index_165 : decode b_Lo_index 165 = .ok (.lload_n 2, 1) := by decide +kernel
theorem d_Lo_index_166 : decode b_Lo_index 166 = .ok (.lconst 0, 1) := by decide +kernel
theorem d_Lo_index_167 : decode b_Lo_index 167 = .ok (.lcmp, 1) := by decide +kernel
theorem d_Lo_index_168 : decode b_Lo_index 168 = .ok (.ifCond .le 7, 3) := by decide +kernel
theorem d_Lo_index_171 : decode b_Lo_index 171 = .ok (.iconst 1, 1) := by decide +kernel
theorem d_Lo_index_172 : decode b_Lo_index 172 = .ok (.goto 7, 3) := by decide +kernel
theorem d_Lo_index_175 : decode b_Lo_index 175 = .ok (.aload_n 1, 1) := by decide +kernel
theorem d_Lo_index_176 : decode b_Lo_index 176 = .ok (.getfield 15, 3) := by decide +kernel
theorem d_Lo_index_179 : decode b_Lo_index 179 = .ok (.lload 4, 2) := by decide +kernel
theorem d_Lo_index_181 : decode b_Lo_index 181 = .ok (.lconst 0, 1) := by decide +kernel
theorem d_Lo_index_182 : decode b_Lo_index 182 = .ok (.lcmp, 1) := by decide +kernel
theorem d_Lo_index_183 : decode b_Lo_index 183 = .ok (.ifCond .le 7, 3) := by decide +kernel
theorem d_Lo_index_186 : decode b_Lo_index 186 = .ok (.iconst 1, 1) := by decide +kernel
theorem d_Lo_index_187 : decode b_Lo_index 187 = .ok (.goto 7, 3) := by decide +kernel
theorem d_Lo_index_190 : decode b_Lo_index 190 = .ok (.aload_n 1, 1) := by decide +kernel
theorem d_Lo_index_191 : decode b_Lo_index 191 = .ok (.getfield 25, 3) := by decide +kernel
theorem d_Lo_index_194 : decode b_Lo_index 194 = .ok (.iconst 0, 1) := by decide +kernel
theorem d_Lo_index_195 : decode b_Lo_index 195 = .ok (.invokestatic 48, 3) := by decide +kernel
theorem d_Lo_index_198 : decode b_Lo_index 198 = .ok (.areturn, 1) := by decide +kernel
theorem p_Lo_index_b76 (d : Nat)   (h : gk_H) : gk_P gw_R (d + 9) y_Lo_index b_Lo_index 6 (some (.object "ValueAlgebra$Value")) [] (f_Lo_index_b76   h) 76 [] [] h := by
  unfold f_Lo_index_b76
  refine gk_iconst (pc := 76) (3 : Int32) d_Lo_index_76 rfl ?_
  refine gk_callS (pc := 77) (d := (d + 8)) (w' := gv_R) (as := [.int (3 : Int32)]) (n := 1) d_Lo_index_77 rfl rfl (Nat.le_of_ble_eq_true rfl) tw_1453 tw_236 tw_97 cw_Va_ofError hy_Va_ofError (Nat.le_of_ble_eq_true rfl) (p_Va_ofError (d + 6) (3 : Int32) h) fun x1 h1 => ?_
  exact gk_aret (pc := 80) rfl d_Lo_index_80 rfl (Or.inl ⟨_, rfl⟩)
theorem p_Lo_index_b102 (d : Nat)   (h : gk_H) : gk_P gw_R (d + 9) y_Lo_index b_Lo_index 6 (some (.object "ValueAlgebra$Value")) [] (f_Lo_index_b102   h) 102 [] [] h := by
  unfold f_Lo_index_b102
  refine gk_iconst (pc := 102) (4 : Int32) d_Lo_index_102 rfl ?_
  refine gk_callS (pc := 103) (d := (d + 8)) (w' := gv_R) (as := [.int (4 : Int32)]) (n := 1) d_Lo_index_103 rfl rfl (Nat.le_of_ble_eq_true rfl) tw_1453 tw_236 tw_97 cw_Va_ofError hy_Va_ofError (Nat.le_of_ble_eq_true rfl) (p_Va_ofError (d + 6) (4 : Int32) h) fun x1 h1 => ?_
  exact gk_aret (pc := 106) rfl d_Lo_index_106 rfl (Or.inl ⟨_, rfl⟩)
theorem p_Lo_index_b194 (d : Nat)  (s0 : Option Nat) (s1 : Int32) (s2 : Int32) (s3 : Int32) (s4 : Int32) (h : gk_H) : gk_P gw_R (d + 9) y_Lo_index b_Lo_index 6 (some (.object "ValueAlgebra$Value")) [] (f_Lo_index_b194  s0 s1 s2 s3 s4 h) 194 [] [.int s4, .int s3, .int s2, .int s1, va_rf s0] h := by
  unfold f_Lo_index_b194
  refine gk_iconst (pc := 194) (0 : Int32) d_Lo_index_194 rfl ?_
  refine gk_callS (pc := 195) (d := (d + 8)) (w' := gv_R) (as := [va_rf s0, .int s1, .int s2, .int s3, .int s4, .int (0 : Int32)]) (n := 6) d_Lo_index_195 rfl rfl (Nat.le_of_ble_eq_true rfl) tw_1459 tw_1460 tw_123 cw_Lo_section hy_Lo_section (Nat.le_of_ble_eq_true rfl) (p_Lo_section (d + 5) s0 s1 s2 s3 s4 (0 : Int32) h) fun x1 h1 => ?_
  exact gk_aret (pc := 198) rfl d_Lo_index_198 rfl (Or.inl ⟨_, rfl⟩)
theorem p_Lo_index_b179 (d : Nat)  (v1 : Option Nat) (v4 : Int64) (s0 : Option Nat) (s1 : Int32) (s2 : Int32) (s3 : Int32) (h : gk_H) : gk_P gw_R (d + 9) y_Lo_index b_Lo_index 6 (some (.object "ValueAlgebra$Value")) [] (f_Lo_index_b179  v1 v4 s0 s1 s2 s3 h) 179 [(1, va_rf v1), (4, .long v4)] [.int s3, .int s2, .int s1, va_rf s0] h := by
  unfold f_Lo_index_b179
  refine gk_lload (pc := 179) 1 d_Lo_index_179 rfl ?_
  refine gk_lconst (pc := 181) (0 : Int64) d_Lo_index_181 rfl ?_
  refine gk_lcmp (pc := 182) d_Lo_index_182 ?_
  refine gk_if_le (pc := 183) 190 d_Lo_index_183 rfl (fun _ => ?_) (fun _ => ?_)
  · refine gk_aload_n (pc := 190) 0 d_Lo_index_190 rfl ?_
    refine gk_getI (pc := 191) 2 5 d_Lo_index_191 rfl (Nat.le_of_ble_eq_true rfl) tw_216 fun x1 => ?_
    refine gk_weak [] (L' := []) rfl ?_
    exact p_Lo_index_b194 d s0 s1 s2 s3 x1 h
  · refine gk_iconst (pc := 186) (1 : Int32) d_Lo_index_186 rfl ?_
    refine gk_goto (pc := 187) 194 d_Lo_index_187 rfl ?_
    refine gk_weak [] (L' := []) rfl ?_
    exact p_Lo_index_b194 d s0 s1 s2 s3 (1 : Int32) h
theorem p_Lo_index_b165 (d : Nat)  (v1 : Option Nat) (v2 : Int64) (v4 : Int64) (s0 : Option Nat) (s1 : Int32) (s2 : Int32) (h : gk_H) : gk_P gw_R (d + 9) y_Lo_index b_Lo_index 6 (some (.object "ValueAlgebra$Value")) [] (f_Lo_index_b165  v1 v2 v4 s0 s1 s2 h) 165 [(1, va_rf v1), (2, .long v2), (4, .long v4)] [.int s2, .int s1, va_rf s0] h := by
  unfold f_Lo_index_b165
  refine gk_lload_n (pc := 165) 1 d_Lo_index_165 rfl ?_
  refine gk_lconst (pc := 166) (0 : Int64) d_Lo_index_166 rfl ?_
  refine gk_lcmp (pc := 167) d_Lo_index_167 ?_
  refine gk_if_le (pc := 168) 175 d_Lo_index_168 rfl (fun _ => ?_) (fun _ => ?_)
  · refine gk_aload_n (pc := 175) 0 d_Lo_index_175 rfl ?_
    refine gk_getI (pc := 176) 2 4 d_Lo_index_176 rfl (Nat.le_of_ble_eq_true rfl) tw_213 fun x1 => ?_
    refine gk_weak [0, 2] (L' := [(1, va_rf v1), (4, .long v4)]) rfl ?_
    exact p_Lo_index_b179 d v1 v4 s0 s1 s2 x1 h
  · refine gk_iconst (pc := 171) (1 : Int32) d_Lo_index_171 rfl ?_
    refine gk_goto (pc := 172) 179 d_Lo_index_172 rfl ?_
    refine gk_weak [0, 2] (L' := [(1, va_rf v1), (4, .long v4)]) rfl ?_
    exact p_Lo_index_b179 d v1 v4 s0 s1 s2 (1 : Int32) h
theorem p_Lo_index_b149 (d : Nat)  (v1 : Option Nat) (v2 : Int64) (v4 : Int64) (s0 : Option Nat) (s1 : Int32) (h : gk_H) : gk_P gw_R (d + 9) y_Lo_index b_Lo_index 6 (some (.object "ValueAlgebra$Value")) [] (f_Lo_index_b149  v1 v2 v4 s0 s1 h) 149 [(1, va_rf v1), (2, .long v2), (4, .long v4)] [.int s1, va_rf s0] h := by
  unfold f_Lo_index_b149
  refine gk_lload (pc := 149) 2 d_Lo_index_149 rfl ?_
  refine gk_lconst (pc := 151) (0 : Int64) d_Lo_index_151 rfl ?_
  refine gk_lcmp (pc := 152) d_Lo_index_152 ?_
  refine gk_if_le (pc := 153) 164 d_Lo_index_153 rfl (fun _ => ?_) (fun _ => ?_)
  · refine gk_iconst (pc := 164) (0 : Int32) d_Lo_index_164 rfl ?_
    exact p_Lo_index_b165 d v1 v2 v4 s0 s1 (0 : Int32) h
  · refine gk_lload (pc := 156) 2 d_Lo_index_156 rfl ?_
    refine gk_l2i (pc := 158) d_Lo_index_158 ?_
    refine gk_iconst (pc := 159) (1 : Int32) d_Lo_index_159 rfl ?_
    refine gk_isub (pc := 160) d_Lo_index_160 ?_
    refine gk_goto (pc := 161) 165 d_Lo_index_161 rfl ?_
    exact p_Lo_index_b165 d v1 v2 v4 s0 s1 ((Int64.toInt32 v4) - (1 : Int32)) h
theorem p_Lo_index_b134 (d : Nat)  (v1 : Option Nat) (v2 : Int64) (v4 : Int64) (h : gk_H) : gk_P gw_R (d + 9) y_Lo_index b_Lo_index 6 (some (.object "ValueAlgebra$Value")) [] (f_Lo_index_b134  v1 v2 v4 h) 134 [(1, va_rf v1), (2, .long v2), (4, .long v4)] [] h := by
  unfold f_Lo_index_b134
  refine gk_aload_n (pc := 134) 0 d_Lo_index_134 rfl ?_
  refine gk_lload_n (pc := 135) 1 d_Lo_index_135 rfl ?_
  refine gk_lconst (pc := 136) (0 : Int64) d_Lo_index_136 rfl ?_
  refine gk_lcmp (pc := 137) d_Lo_index_137 ?_
  refine gk_if_le (pc := 138) 148 d_Lo_index_138 rfl (fun _ => ?_) (fun _ => ?_)
  · refine gk_iconst (pc := 148) (0 : Int32) d_Lo_index_148 rfl ?_
    exact p_Lo_index_b149 d v1 v2 v4 v1 (0 : Int32) h
  · refine gk_lload_n (pc := 141) 1 d_Lo_index_141 rfl ?_
    refine gk_l2i (pc := 142) d_Lo_index_142 ?_
    refine gk_iconst (pc := 143) (1 : Int32) d_Lo_index_143 rfl ?_
    refine gk_isub (pc := 144) d_Lo_index_144 ?_
    refine gk_goto (pc := 145) 149 d_Lo_index_145 rfl ?_
    exact p_Lo_index_b149 d v1 v2 v4 v1 ((Int64.toInt32 v2) - (1 : Int32)) h
theorem p_Lo_index_b63 (d : Nat)  (v1 : Option Nat) (v2 : Int64) (v4 : Int64) (h : gk_H) : gk_P gw_R (d + 9) y_Lo_index b_Lo_index 6 (some (.object "ValueAlgebra$Value")) [] (f_Lo_index_b63  v1 v2 v4 h) 63 [(1, va_rf v1), (2, .long v2), (4, .long v4)] [] h := by
  unfold f_Lo_index_b63
  refine gk_lload_n (pc := 63) 1 d_Lo_index_63 rfl ?_
  refine gk_lconst (pc := 64) (0 : Int64) d_Lo_index_64 rfl ?_
  refine gk_lcmp (pc := 65) d_Lo_index_65 ?_
  refine gk_if_lt (pc := 66) 76 d_Lo_index_66 rfl (fun _ => ?_) (fun _ => ?_)
  · refine gk_weak [] (L' := []) rfl ?_
    exact p_Lo_index_b76 d h
  · refine gk_lload (pc := 69) 2 d_Lo_index_69 rfl ?_
    refine gk_lconst (pc := 71) (0 : Int64) d_Lo_index_71 rfl ?_
    refine gk_lcmp (pc := 72) d_Lo_index_72 ?_
    refine gk_if_ge (pc := 73) 81 d_Lo_index_73 rfl (fun _ => ?_) (fun _ => ?_)
    · refine gk_lload_n (pc := 81) 1 d_Lo_index_81 rfl ?_
      refine gk_aload_n (pc := 82) 0 d_Lo_index_82 rfl ?_
      refine gk_getI (pc := 83) 2 4 d_Lo_index_83 rfl (Nat.le_of_ble_eq_true rfl) tw_213 fun x1 => ?_
      refine gk_i2l (pc := 86) d_Lo_index_86 ?_
      refine gk_lcmp (pc := 87) d_Lo_index_87 ?_
      refine gk_if_gt (pc := 88) 102 d_Lo_index_88 rfl (fun _ => ?_) (fun _ => ?_)
      · refine gk_weak [] (L' := []) rfl ?_
        exact p_Lo_index_b102 d h
      · refine gk_lload (pc := 91) 2 d_Lo_index_91 rfl ?_
        refine gk_aload_n (pc := 93) 0 d_Lo_index_93 rfl ?_
        refine gk_getI (pc := 94) 2 5 d_Lo_index_94 rfl (Nat.le_of_ble_eq_true rfl) tw_216 fun x2 => ?_
        refine gk_i2l (pc := 97) d_Lo_index_97 ?_
        refine gk_lcmp (pc := 98) d_Lo_index_98 ?_
        refine gk_if_le (pc := 99) 107 d_Lo_index_99 rfl (fun _ => ?_) (fun _ => ?_)
        · refine gk_lload_n (pc := 107) 1 d_Lo_index_107 rfl ?_
          refine gk_lconst (pc := 108) (0 : Int64) d_Lo_index_108 rfl ?_
          refine gk_lcmp (pc := 109) d_Lo_index_109 ?_
          refine gk_if_le (pc := 110) 134 d_Lo_index_110 rfl (fun _ => ?_) (fun _ => ?_)
          · exact p_Lo_index_b134 d v1 v2 v4 h
          · refine gk_lload (pc := 113) 2 d_Lo_index_113 rfl ?_
            refine gk_lconst (pc := 115) (0 : Int64) d_Lo_index_115 rfl ?_
            refine gk_lcmp (pc := 116) d_Lo_index_116 ?_
            refine gk_if_le (pc := 117) 134 d_Lo_index_117 rfl (fun _ => ?_) (fun _ => ?_)
            · exact p_Lo_index_b134 d v1 v2 v4 h
            · refine gk_aload_n (pc := 120) 0 d_Lo_index_120 rfl ?_
              refine gk_lload_n (pc := 121) 1 d_Lo_index_121 rfl ?_
              refine gk_l2i (pc := 122) d_Lo_index_122 ?_
              refine gk_iconst (pc := 123) (1 : Int32) d_Lo_index_123 rfl ?_
              refine gk_isub (pc := 124) d_Lo_index_124 ?_
              refine gk_lload (pc := 125) 2 d_Lo_index_125 rfl ?_
              refine gk_l2i (pc := 127) d_Lo_index_127 ?_
              refine gk_iconst (pc := 128) (1 : Int32) d_Lo_index_128 rfl ?_
              refine gk_isub (pc := 129) d_Lo_index_129 ?_
              refine gk_callV (pc := 130) (d := (d + 8)) (w' := gv_R) (as := [.int ((Int64.toInt32 v2) - (1 : Int32)), .int ((Int64.toInt32 v4) - (1 : Int32))]) (n := 2) 2 d_Lo_index_130 rfl rfl rfl rfl (Nat.le_of_ble_eq_true rfl) tw_1454 tw_1455 tw_1456 tw_97 cw_Va_cellIn hy_Va_cellIn (Nat.le_of_ble_eq_true rfl) (p_Va_cellIn (d + 7) v1 ((Int64.toInt32 v2) - (1 : Int32)) ((Int64.toInt32 v4) - (1 : Int32)) h) fun x3 h1 => ?_
              exact gk_aret (pc := 133) rfl d_Lo_index_133 rfl (Or.inl ⟨_, rfl⟩)
        · refine gk_weak [] (L' := []) rfl ?_
          exact p_Lo_index_b102 d h
    · refine gk_weak [] (L' := []) rfl ?_
      exact p_Lo_index_b76 d h
theorem p_Lo_index_b44 (d : Nat)  (v0 : Option Nat) (v1 : Option Nat) (v2 : Int64) (v4 : Int64) (h : gk_H) : gk_P gw_R (d + 9) y_Lo_index b_Lo_index 6 (some (.object "ValueAlgebra$Value")) [] (f_Lo_index_b44  v0 v1 v2 v4 h) 44 [(0, va_rf v0), (1, va_rf v1), (2, .long v2), (4, .long v4)] [] h := by
  unfold f_Lo_index_b44
  refine gk_aload_n (pc := 44) 0 d_Lo_index_44 rfl ?_
  refine gk_callV (pc := 45) (d := (d + 8)) (w' := gv_I) (as := []) (n := 0) 4 d_Lo_index_45 rfl rfl rfl rfl (Nat.le_of_ble_eq_true rfl) tw_1452 tw_1030 tw_1031 tw_96 cw_Ar_howMany hy_Ar_howMany (Nat.le_of_ble_eq_true rfl) (p_Ar_howMany (d + 8) v0 h) fun x1 h1 => ?_
  refine gk_iconst (pc := 48) (2 : Int32) d_Lo_index_48 rfl ?_
  refine gk_icmp_ne (pc := 49) 63 d_Lo_index_49 rfl (fun _ => ?_) (fun _ => ?_)
  · refine gk_aload_n (pc := 52) 1 d_Lo_index_52 rfl ?_
    refine gk_getI (pc := 53) 2 5 d_Lo_index_53 rfl (Nat.le_of_ble_eq_true rfl) tw_216 fun x2 => ?_
    refine gk_iconst (pc := 56) (1 : Int32) d_Lo_index_56 rfl ?_
    refine gk_icmp_ne (pc := 57) 63 d_Lo_index_57 rfl (fun _ => ?_) (fun _ => ?_)
    · refine gk_lconst (pc := 60) (1 : Int64) d_Lo_index_60 rfl ?_
      refine gk_lstore (pc := 61) (L' := [(4, .long (1 : Int64)), (0, va_rf v0), (1, va_rf v1), (2, .long v2)]) d_Lo_index_61 (Nat.le_of_ble_eq_true rfl) rfl ?_
      refine gk_weak [2, 3, 0] (L' := [(1, va_rf v1), (2, .long v2), (4, .long (1 : Int64))]) rfl ?_
      exact p_Lo_index_b63 d v1 v2 (1 : Int64) h1
    · refine gk_weak [1, 2, 3] (L' := [(1, va_rf v1), (2, .long v2), (4, .long v4)]) rfl ?_
      exact p_Lo_index_b63 d v1 v2 v4 h1
  · refine gk_weak [1, 2, 3] (L' := [(1, va_rf v1), (2, .long v2), (4, .long v4)]) rfl ?_
    exact p_Lo_index_b63 d v1 v2 v4 h1
theorem w_Lo_index (d : Nat) (a0 : Option Nat) (h : gk_H) : gk_P gw_R (d + 9) y_Lo_index b_Lo_index 6 (some (.object "ValueAlgebra$Value")) [] (f_Lo_index a0 h) 0 [(0, va_rf a0)] [] h := by
  unfold f_Lo_index
  refine gk_aload_n (pc := 0) 0 d_Lo_index_0 rfl ?_
  refine gk_iconst (pc := 1) (0 : Int32) d_Lo_index_1 rfl ?_
  refine gk_callV (pc := 2) (d := (d + 8)) (w' := gv_R) (as := [.int (0 : Int32)]) (n := 1) 4 d_Lo_index_2 rfl rfl rfl rfl (Nat.le_of_ble_eq_true rfl) tw_1445 tw_1034 tw_1035 tw_96 cw_Ar_raw hy_Ar_raw (Nat.le_of_ble_eq_true rfl) (p_Ar_raw (d + 8) a0 (0 : Int32) h) fun x1 h1 => ?_
  refine gk_astore_n (pc := 5) (L' := [(1, va_rf x1), (0, va_rf a0)]) d_Lo_index_5 (Nat.le_of_ble_eq_true rfl) (by simp [gk_s1, gk_s2, gk_cat_rf, gk_catI, gk_catJ, gk_catD] <;> decide) ?_
  refine gk_aload_n (pc := 6) 1 d_Lo_index_6 rfl ?_
  refine gk_iconst (pc := 7) (1 : Int32) d_Lo_index_7 rfl ?_
  refine gk_callV (pc := 8) (d := (d + 8)) (w' := gv_J) (as := [.int (1 : Int32)]) (n := 1) 4 d_Lo_index_8 rfl rfl rfl rfl (Nat.le_of_ble_eq_true rfl) tw_1450 tw_1065 tw_1066 tw_96 cw_Ar_whole hy_Ar_whole (Nat.le_of_ble_eq_true rfl) (p_Ar_whole (d + 1) a0 (1 : Int32) h1) fun x2 h2 => ?_
  refine gk_lstore_n (pc := 11) (L' := [(2, .long x2), (1, va_rf x1), (0, va_rf a0)]) d_Lo_index_11 (Nat.le_of_ble_eq_true rfl) (by simp [gk_s1, gk_s2, gk_cat_rf, gk_catI, gk_catJ, gk_catD] <;> decide) ?_
  refine gk_aload_n (pc := 12) 2 d_Lo_index_12 rfl ?_
  refine gk_iconst (pc := 13) (2 : Int32) d_Lo_index_13 rfl ?_
  refine gk_lconst (pc := 14) (0 : Int64) d_Lo_index_14 rfl ?_
  refine gk_callV (pc := 15) (d := (d + 8)) (w' := gv_J) (as := [.int (2 : Int32), .long (0 : Int64)]) (n := 2) 4 d_Lo_index_15 rfl rfl rfl rfl (Nat.le_of_ble_eq_true rfl) tw_1451 tw_1286 tw_1287 tw_96 cw_Ar_wholeOr hy_Ar_wholeOr (Nat.le_of_ble_eq_true rfl) (p_Ar_wholeOr d a0 (2 : Int32) (0 : Int64) h2) fun x3 h3 => ?_
  refine gk_lstore (pc := 18) (L' := [(4, .long x3), (2, .long x2), (1, va_rf x1), (0, va_rf a0)]) d_Lo_index_18 (Nat.le_of_ble_eq_true rfl) rfl ?_
  refine gk_aload_n (pc := 20) 3 d_Lo_index_20 rfl ?_
  refine gk_callV (pc := 21) (d := (d + 8)) (w' := gv_I) (as := []) (n := 0) 4 d_Lo_index_21 rfl rfl rfl rfl (Nat.le_of_ble_eq_true rfl) tw_1452 tw_1030 tw_1031 tw_96 cw_Ar_howMany hy_Ar_howMany (Nat.le_of_ble_eq_true rfl) (p_Ar_howMany (d + 8) a0 h3) fun x4 h4 => ?_
  refine gk_iconst (pc := 24) (2 : Int32) d_Lo_index_24 rfl ?_
  refine gk_icmp_ne (pc := 25) 44 d_Lo_index_25 rfl (fun _ => ?_) (fun _ => ?_)
  · refine gk_aload_n (pc := 28) 2 d_Lo_index_28 rfl ?_
    refine gk_getI (pc := 29) 2 4 d_Lo_index_29 rfl (Nat.le_of_ble_eq_true rfl) tw_213 fun x5 => ?_
    refine gk_iconst (pc := 32) (1 : Int32) d_Lo_index_32 rfl ?_
    refine gk_icmp_ne (pc := 33) 44 d_Lo_index_33 rfl (fun _ => ?_) (fun _ => ?_)
    · refine gk_lload_n (pc := 36) 1 d_Lo_index_36 rfl ?_
      refine gk_lstore (pc := 37) (L' := [(4, .long x2), (2, .long x2), (1, va_rf x1), (0, va_rf a0)]) d_Lo_index_37 (Nat.le_of_ble_eq_true rfl) rfl ?_
      refine gk_lconst (pc := 39) (1 : Int64) d_Lo_index_39 rfl ?_
      refine gk_lstore_n (pc := 40) (L' := [(2, .long (1 : Int64)), (4, .long x2), (1, va_rf x1), (0, va_rf a0)]) d_Lo_index_40 (Nat.le_of_ble_eq_true rfl) (by simp [gk_s1, gk_s2, gk_cat_rf, gk_catI, gk_catJ, gk_catD] <;> decide) ?_
      refine gk_goto (pc := 41) 63 d_Lo_index_41 rfl ?_
      refine gk_weak [2, 0, 1] (L' := [(1, va_rf x1), (2, .long (1 : Int64)), (4, .long x2)]) rfl ?_
      exact p_Lo_index_b63 d x1 (1 : Int64) x2 h4
    · refine gk_weak [3, 2, 1, 0] (L' := [(0, va_rf a0), (1, va_rf x1), (2, .long x2), (4, .long x3)]) rfl ?_
      exact p_Lo_index_b44 d a0 x1 x2 x3 h4
  · refine gk_weak [3, 2, 1, 0] (L' := [(0, va_rf a0), (1, va_rf x1), (2, .long x2), (4, .long x3)]) rfl ?_
    exact p_Lo_index_b44 d a0 x1 x2 x3 h4
theorem p_Lo_index (d : Nat) (a0 : Option Nat) (h : gk_H) : ∀ r h1, f_Lo_index a0 h = some (r, h1) → gk_M (d + 9) y_Lo_index b_Lo_index 6 (some (.object "ValueAlgebra$Value")) [va_rf a0] h (.inl (gv_R r)) h1 :=
  fun r h1 e => gk_M_of2 (by decide +kernel) (by simp [lv_args, gk_cat_rf, gk_catI, gk_catJ, gk_catD, gv_V, gv_I, gv_J, gv_D, gv_R]) (by simp [lg_sl, gk_cat_rf, gk_catI, gk_catJ, gk_catD, gv_V, gv_I, gv_J, gv_D, gv_R]) (w_Lo_index d a0 h r h1 e)
theorem d_Lo_answer_0 : decode b_Lo_answer 0 = .ok (.iload_n 0, 1) := by decide +kernel
theorem d_Lo_answer_1 : decode b_Lo_answer 1 = .ok (.tableswitch 111 74 80 #[43, 56, 69, 74, 79, 89, 102], 43) := by decide +kernel
theorem d_Lo_answer_44 : decode b_Lo_answer 44 = .ok (.aload_n 1, 1) := by decide +kernel
theorem d_Lo_answer_45 : decode b_Lo_answer 45 = .ok (.iconst 0, 1) := by decide +kernel
theorem d_Lo_answer_46 : decode b_Lo_answer 46 = .ok (.invokevirtual 9, 3) := by decide +kernel
theorem d_Lo_answer_49 : decode b_Lo_answer 49 = .ok (.getfield 15, 3) := by decide +kernel
theorem d_Lo_answer_52 : decode b_Lo_answer 52 = .ok (.i2d, 1) := by decide +kernel
theorem d_Lo_answer_53 : decode b_Lo_answer 53 = .ok (.invokestatic 21, 3) := by decide +kernel
theorem d_Lo_answer_56 : decode b_Lo_answer 56 = .ok (.areturn, 1) := by decide +kernel
theorem d_Lo_answer_57 : decode b_Lo_answer 57 = .ok (.aload_n 1, 1) := by decide +kernel
theorem d_Lo_answer_58 : decode b_Lo_answer 58 = .ok (.iconst 0, 1) := by decide +kernel
theorem d_Lo_answer_59 : decode b_Lo_answer 59 = .ok (.invokevirtual 9, 3) := by decide +kernel
theorem d_Lo_answer_62 : decode b_Lo_answer 62 = .ok (.getfield 25, 3) := by decide +kernel
theorem d_Lo_answer_65 : decode b_Lo_answer 65 = .ok (.i2d, 1) := by decide +kernel
theorem d_Lo_answer_66 : decode b_Lo_answer 66 = .ok (.invokestatic 21, 3) := by decide +kernel
theorem d_Lo_answer_69 : decode b_Lo_answer 69 = .ok (.areturn, 1) := by decide +kernel
theorem d_Lo_answer_70 : decode b_Lo_answer 70 = .ok (.aload_n 1, 1) := by decide +kernel
theorem d_Lo_answer_71 : decode b_Lo_answer 71 = .ok (.invokestatic 28, 3) := by decide +kernel
theorem d_Lo_answer_74 : decode b_Lo_answer 74 = .ok (.areturn, 1) := by decide +kernel
theorem d_Lo_answer_75 : decode b_Lo_answer 75 = .ok (.aload_n 1, 1) := by decide +kernel
theorem d_Lo_answer_76 : decode b_Lo_answer 76 = .ok (.invokestatic 34, 3) := by decide +kernel
theorem d_Lo_answer_79 : decode b_Lo_answer 79 = .ok (.areturn, 1) := by decide +kernel
theorem d_Lo_answer_80 : decode b_Lo_answer 80 = .ok (.aload_n 1, 1) := by decide +kernel
theorem d_Lo_answer_81 : decode b_Lo_answer 81 = .ok (.aload_n 1, 1) := by decide +kernel
theorem d_Lo_answer_82 : decode b_Lo_answer 82 = .ok (.iconst 1, 1) := by decide +kernel
theorem d_Lo_answer_83 : decode b_Lo_answer 83 = .ok (.invokevirtual 9, 3) := by decide +kernel
theorem d_Lo_answer_86 : decode b_Lo_answer 86 = .ok (.invokestatic 37, 3) := by decide +kernel
theorem d_Lo_answer_89 : decode b_Lo_answer 89 = .ok (.areturn, 1) := by decide +kernel
theorem d_Lo_answer_90 : decode b_Lo_answer 90 = .ok (.aload_n 1, 1) := by decide +kernel
theorem d_Lo_answer_91 : decode b_Lo_answer 91 = .ok (.aload_n 1, 1) := by decide +kernel
theorem d_Lo_answer_92 : decode b_Lo_answer 92 = .ok (.iconst 1, 1) := by decide +kernel
theorem d_Lo_answer_93 : decode b_Lo_answer 93 = .ok (.invokevirtual 9, 3) := by decide +kernel
theorem d_Lo_answer_96 : decode b_Lo_answer 96 = .ok (.invokestatic 41, 3) := by decide +kernel
theorem d_Lo_answer_99 : decode b_Lo_answer 99 = .ok (.invokestatic 37, 3) := by decide +kernel
theorem d_Lo_answer_102 : decode b_Lo_answer 102 = .ok (.areturn, 1) := by decide +kernel
theorem d_Lo_answer_103 : decode b_Lo_answer 103 = .ok (.aload_n 1, 1) := by decide +kernel
theorem d_Lo_answer_104 : decode b_Lo_answer 104 = .ok (.iconst 0, 1) := by decide +kernel
theorem d_Lo_answer_105 : decode b_Lo_answer 105 = .ok (.invokevirtual 9, 3) := by decide +kernel
theorem d_Lo_answer_108 : decode b_Lo_answer 108 = .ok (.invokestatic 41, 3) := by decide +kernel
theorem d_Lo_answer_111 : decode b_Lo_answer 111 = .ok (.areturn, 1) := by decide +kernel
theorem d_Lo_answer_112 : decode b_Lo_answer 112 = .ok (.iconst 3, 1) := by decide +kernel
theorem d_Lo_answer_113 : decode b_Lo_answer 113 = .ok (.invokestatic 45, 3) := by decide +kernel
theorem d_Lo_answer_116 : decode b_Lo_answer 116 = .ok (.areturn, 1) := by decide +kernel
theorem w_Lo_answer (d : Nat) (a0 : Int32) (a1 : Option Nat) (h : gk_H) : gk_P gw_R (d + 10) y_Lo_answer b_Lo_answer 2 (some (.object "ValueAlgebra$Value")) [] (f_Lo_answer a0 a1 h) 0 [(0, .int a0), (1, va_rf a1)] [] h := by
  unfold f_Lo_answer
  refine gk_iload_n (pc := 0) 0 d_Lo_answer_0 rfl ?_
  refine gk_ite (fun z1_0 => ?_) (fun z1_0 => ?_)
  · refine gk_tsw_in (pc := 1) (74 : Int32) 44 d_Lo_answer_1 z1_0 (by decide) (by decide) rfl rfl ?_
    refine gk_aload_n (pc := 44) 1 d_Lo_answer_44 rfl ?_
    refine gk_iconst (pc := 45) (0 : Int32) d_Lo_answer_45 rfl ?_
    refine gk_callV (pc := 46) (d := (d + 9)) (w' := gv_R) (as := [.int (0 : Int32)]) (n := 1) 4 d_Lo_answer_46 rfl rfl rfl rfl (Nat.le_of_ble_eq_true rfl) tw_1445 tw_1034 tw_1035 tw_96 cw_Ar_raw hy_Ar_raw (Nat.le_of_ble_eq_true rfl) (p_Ar_raw (d + 9) a1 (0 : Int32) h) fun x1 h1 => ?_
    refine gk_getI (pc := 49) 2 4 d_Lo_answer_49 rfl (Nat.le_of_ble_eq_true rfl) tw_213 fun x2 => ?_
    refine gk_i2d (pc := 52) d_Lo_answer_52 ?_
    refine gk_callS (pc := 53) (d := (d + 9)) (w' := gv_R) (as := [.double (FP.i2d x2)]) (n := 1) d_Lo_answer_53 rfl rfl (Nat.le_of_ble_eq_true rfl) tw_1446 tw_317 tw_97 cw_Va_ofNumber hy_Va_ofNumber (Nat.le_of_ble_eq_true rfl) (p_Va_ofNumber (d + 7) (FP.i2d x2) h1) fun x3 h2 => ?_
    exact gk_aret (pc := 56) rfl d_Lo_answer_56 rfl (Or.inl ⟨_, rfl⟩)
  ·
    refine gk_ite (fun z1_1 => ?_) (fun z1_1 => ?_)
    · refine gk_tsw_in (pc := 1) (75 : Int32) 57 d_Lo_answer_1 z1_1 (by decide) (by decide) rfl rfl ?_
      refine gk_aload_n (pc := 57) 1 d_Lo_answer_57 rfl ?_
      refine gk_iconst (pc := 58) (0 : Int32) d_Lo_answer_58 rfl ?_
      refine gk_callV (pc := 59) (d := (d + 9)) (w' := gv_R) (as := [.int (0 : Int32)]) (n := 1) 4 d_Lo_answer_59 rfl rfl rfl rfl (Nat.le_of_ble_eq_true rfl) tw_1445 tw_1034 tw_1035 tw_96 cw_Ar_raw hy_Ar_raw (Nat.le_of_ble_eq_true rfl) (p_Ar_raw (d + 9) a1 (0 : Int32) h) fun x4 h3 => ?_
      refine gk_getI (pc := 62) 2 5 d_Lo_answer_62 rfl (Nat.le_of_ble_eq_true rfl) tw_216 fun x5 => ?_
      refine gk_i2d (pc := 65) d_Lo_answer_65 ?_
      refine gk_callS (pc := 66) (d := (d + 9)) (w' := gv_R) (as := [.double (FP.i2d x5)]) (n := 1) d_Lo_answer_66 rfl rfl (Nat.le_of_ble_eq_true rfl) tw_1446 tw_317 tw_97 cw_Va_ofNumber hy_Va_ofNumber (Nat.le_of_ble_eq_true rfl) (p_Va_ofNumber (d + 7) (FP.i2d x5) h3) fun x6 h4 => ?_
      exact gk_aret (pc := 69) rfl d_Lo_answer_69 rfl (Or.inl ⟨_, rfl⟩)
    ·
      refine gk_ite (fun z1_2 => ?_) (fun z1_2 => ?_)
      · refine gk_tsw_in (pc := 1) (76 : Int32) 70 d_Lo_answer_1 z1_2 (by decide) (by decide) rfl rfl ?_
        refine gk_aload_n (pc := 70) 1 d_Lo_answer_70 rfl ?_
        refine gk_callS (pc := 71) (d := (d + 9)) (w' := gv_R) (as := [va_rf a1]) (n := 1) d_Lo_answer_71 rfl rfl (Nat.le_of_ble_eq_true rfl) tw_1447 tw_1448 tw_123 cw_Lo_index hy_Lo_index (Nat.le_of_ble_eq_true rfl) (p_Lo_index d a1 h) fun x7 h5 => ?_
        exact gk_aret (pc := 74) rfl d_Lo_answer_74 rfl (Or.inl ⟨_, rfl⟩)
      ·
        refine gk_ite (fun z1_3 => ?_) (fun z1_3 => ?_)
        · refine gk_tsw_in (pc := 1) (77 : Int32) 75 d_Lo_answer_1 z1_3 (by decide) (by decide) rfl rfl ?_
          refine gk_aload_n (pc := 75) 1 d_Lo_answer_75 rfl ?_
          refine gk_callS (pc := 76) (d := (d + 9)) (w' := gv_R) (as := [va_rf a1]) (n := 1) d_Lo_answer_76 rfl rfl (Nat.le_of_ble_eq_true rfl) tw_1465 tw_1466 tw_123 cw_Lo_match hy_Lo_match (Nat.le_of_ble_eq_true rfl) (p_Lo_match d a1 h) fun x8 h6 => ?_
          exact gk_aret (pc := 79) rfl d_Lo_answer_79 rfl (Or.inl ⟨_, rfl⟩)
        ·
          refine gk_ite (fun z1_4 => ?_) (fun z1_4 => ?_)
          · refine gk_tsw_in (pc := 1) (78 : Int32) 80 d_Lo_answer_1 z1_4 (by decide) (by decide) rfl rfl ?_
            refine gk_aload_n (pc := 80) 1 d_Lo_answer_80 rfl ?_
            refine gk_aload_n (pc := 81) 1 d_Lo_answer_81 rfl ?_
            refine gk_iconst (pc := 82) (1 : Int32) d_Lo_answer_82 rfl ?_
            refine gk_callV (pc := 83) (d := (d + 9)) (w' := gv_R) (as := [.int (1 : Int32)]) (n := 1) 4 d_Lo_answer_83 rfl rfl rfl rfl (by simp [gk_cat_rf, gk_catI, gk_catJ, gk_catD, gv_V, gv_I, gv_J, gv_D, gv_R]) tw_1445 tw_1034 tw_1035 tw_96 cw_Ar_raw hy_Ar_raw (Nat.le_of_ble_eq_true rfl) (p_Ar_raw (d + 9) a1 (1 : Int32) h) fun x9 h7 => ?_
            refine gk_callS (pc := 86) (d := (d + 9)) (w' := gv_R) (as := [va_rf a1, va_rf x9]) (n := 2) d_Lo_answer_86 rfl rfl (Nat.le_of_ble_eq_true rfl) tw_1490 tw_1491 tw_123 cw_Lo_lookedUp hy_Lo_lookedUp (Nat.le_of_ble_eq_true rfl) (p_Lo_lookedUp (d + 1) a1 x9 h7) fun x10 h8 => ?_
            exact gk_aret (pc := 89) rfl d_Lo_answer_89 rfl (Or.inl ⟨_, rfl⟩)
          ·
            refine gk_ite (fun z1_5 => ?_) (fun z1_5 => ?_)
            · refine gk_tsw_in (pc := 1) (79 : Int32) 90 d_Lo_answer_1 z1_5 (by decide) (by decide) rfl rfl ?_
              refine gk_aload_n (pc := 90) 1 d_Lo_answer_90 rfl ?_
              refine gk_aload_n (pc := 91) 1 d_Lo_answer_91 rfl ?_
              refine gk_iconst (pc := 92) (1 : Int32) d_Lo_answer_92 rfl ?_
              refine gk_callV (pc := 93) (d := (d + 9)) (w' := gv_R) (as := [.int (1 : Int32)]) (n := 1) 4 d_Lo_answer_93 rfl rfl rfl rfl (by simp [gk_cat_rf, gk_catI, gk_catJ, gk_catD, gv_V, gv_I, gv_J, gv_D, gv_R]) tw_1445 tw_1034 tw_1035 tw_96 cw_Ar_raw hy_Ar_raw (Nat.le_of_ble_eq_true rfl) (p_Ar_raw (d + 9) a1 (1 : Int32) h) fun x11 h9 => ?_
              refine gk_callS (pc := 96) (d := (d + 9)) (w' := gv_R) (as := [va_rf x11]) (n := 1) d_Lo_answer_96 rfl rfl (by simp [gk_cat_rf, gk_catI, gk_catJ, gk_catD, gv_V, gv_I, gv_J, gv_D, gv_R]) tw_1498 tw_1499 tw_123 cw_Lo_transposed hy_Lo_transposed (Nat.le_of_ble_eq_true rfl) (p_Lo_transposed (d + 5) x11 h9) fun x12 h10 => ?_
              refine gk_callS (pc := 99) (d := (d + 9)) (w' := gv_R) (as := [va_rf a1, va_rf x12]) (n := 2) d_Lo_answer_99 rfl rfl (Nat.le_of_ble_eq_true rfl) tw_1490 tw_1491 tw_123 cw_Lo_lookedUp hy_Lo_lookedUp (Nat.le_of_ble_eq_true rfl) (p_Lo_lookedUp (d + 1) a1 x12 h10) fun x13 h11 => ?_
              exact gk_aret (pc := 102) rfl d_Lo_answer_102 rfl (Or.inl ⟨_, rfl⟩)
            ·
              refine gk_ite (fun z1_6 => ?_) (fun z1_6 => ?_)
              · refine gk_tsw_in (pc := 1) (80 : Int32) 103 d_Lo_answer_1 z1_6 (by decide) (by decide) rfl rfl ?_
                refine gk_aload_n (pc := 103) 1 d_Lo_answer_103 rfl ?_
                refine gk_iconst (pc := 104) (0 : Int32) d_Lo_answer_104 rfl ?_
                refine gk_callV (pc := 105) (d := (d + 9)) (w' := gv_R) (as := [.int (0 : Int32)]) (n := 1) 4 d_Lo_answer_105 rfl rfl rfl rfl (Nat.le_of_ble_eq_true rfl) tw_1445 tw_1034 tw_1035 tw_96 cw_Ar_raw hy_Ar_raw (Nat.le_of_ble_eq_true rfl) (p_Ar_raw (d + 9) a1 (0 : Int32) h) fun x14 h12 => ?_
                refine gk_callS (pc := 108) (d := (d + 9)) (w' := gv_R) (as := [va_rf x14]) (n := 1) d_Lo_answer_108 rfl rfl (Nat.le_of_ble_eq_true rfl) tw_1498 tw_1499 tw_123 cw_Lo_transposed hy_Lo_transposed (Nat.le_of_ble_eq_true rfl) (p_Lo_transposed (d + 5) x14 h12) fun x15 h13 => ?_
                exact gk_aret (pc := 111) rfl d_Lo_answer_111 rfl (Or.inl ⟨_, rfl⟩)
              ·
                refine gk_tsw_out (pc := 1) 112 d_Lo_answer_1 (by have e0 := gk_neT z1_0 (by decide : (74 : Int32).toInt = 74); have e1 := gk_neT z1_1 (by decide : (75 : Int32).toInt = 75); have e2 := gk_neT z1_2 (by decide : (76 : Int32).toInt = 76); have e3 := gk_neT z1_3 (by decide : (77 : Int32).toInt = 77); have e4 := gk_neT z1_4 (by decide : (78 : Int32).toInt = 78); have e5 := gk_neT z1_5 (by decide : (79 : Int32).toInt = 79); have e6 := gk_neT z1_6 (by decide : (80 : Int32).toInt = 80); omega) rfl ?_
                refine gk_iconst (pc := 112) (3 : Int32) d_Lo_answer_112 rfl ?_
                refine gk_callS (pc := 113) (d := (d + 9)) (w' := gv_R) (as := [.int (3 : Int32)]) (n := 1) d_Lo_answer_113 rfl rfl (Nat.le_of_ble_eq_true rfl) tw_1453 tw_236 tw_97 cw_Va_ofError hy_Va_ofError (Nat.le_of_ble_eq_true rfl) (p_Va_ofError (d + 7) (3 : Int32) h) fun x16 h14 => ?_
                exact gk_aret (pc := 116) rfl d_Lo_answer_116 rfl (Or.inl ⟨_, rfl⟩)
theorem p_Lo_answer (d : Nat) (a0 : Int32) (a1 : Option Nat) (h : gk_H) : ∀ r h1, f_Lo_answer a0 a1 h = some (r, h1) → gk_M (d + 10) y_Lo_answer b_Lo_answer 2 (some (.object "ValueAlgebra$Value")) [.int a0, va_rf a1] h (.inl (gv_R r)) h1 :=
  fun r h1 e => gk_M_of2 (by decide +kernel) (by simp [lv_args, gk_cat_rf, gk_catI, gk_catJ, gk_catD, gv_V, gv_I, gv_J, gv_D, gv_R]) (by simp [lg_sl, gk_cat_rf, gk_catI, gk_catJ, gk_catD, gv_V, gv_I, gv_J, gv_D, gv_R]) (w_Lo_answer d a0 a1 h r h1 e)
theorem d_Da_partOfDay_0 : decode b_Da_partOfDay 0 = .ok (.dload_n 1, 1) := by decide +kernel
theorem d_Da_partOfDay_1 : decode b_Da_partOfDay 1 = .ok (.dconst 0, 1) := by decide +kernel
theorem d_Da_partOfDay_2 : decode b_Da_partOfDay 2 = .ok (.dcmp .g, 1) := by decide +kernel
theorem d_Da_partOfDay_3 : decode b_Da_partOfDay 3 = .ok (.ifCond .ge 9, 3) := by decide +kernel
theorem d_Da_partOfDay_6 : decode b_Da_partOfDay 6 = .ok (.bipush 6, 2) := by decide +kernel
theorem d_Da_partOfDay_8 : decode b_Da_partOfDay 8 = .ok (.invokestatic 49, 3) := by decide +kernel
theorem d_Da_partOfDay_11 : decode b_Da_partOfDay 11 = .ok (.areturn, 1) := by decide +kernel
theorem d_Da_partOfDay_12 : decode b_Da_partOfDay 12 = .ok (.dload_n 1, 1) := by decide +kernel
theorem d_Da_partOfDay_13 : decode b_Da_partOfDay 13 = .ok (.dload_n 1, 1) := by decide +kernel
theorem d_Da_partOfDay_14 : decode b_Da_partOfDay 14 = .ok (.invokestatic 118, 3) := by decide +kernel
theorem d_Da_partOfDay_17 : decode b_Da_partOfDay 17 = .ok (.dsub, 1) := by decide +kernel
theorem d_Da_partOfDay_18 : decode b_Da_partOfDay 18 = .ok (.ldc2_w 116, 3) := by decide +kernel
theorem d_Da_partOfDay_21 : decode b_Da_partOfDay 21 = .ok (.dmul, 1) := by decide +kernel
theorem d_Da_partOfDay_22 : decode b_Da_partOfDay 22 = .ok (.ldc2_w 124, 3) := by decide +kernel
theorem d_Da_partOfDay_25 : decode b_Da_partOfDay 25 = .ok (.dadd, 1) := by decide +kernel
theorem d_Da_partOfDay_26 : decode b_Da_partOfDay 26 = .ok (.d2i, 1) := by decide +kernel
theorem d_Da_partOfDay_27 : decode b_Da_partOfDay 27 = .ok (.istore_n 3, 1) := by decide +kernel
theorem d_Da_partOfDay_28 : decode b_Da_partOfDay 28 = .ok (.iload_n 3, 1) := by decide +kernel
theorem d_Da_partOfDay_29 : decode b_Da_partOfDay 29 = .ok (.ldc 126, 2) := by decide +kernel
theorem d_Da_partOfDay_31 : decode b_Da_partOfDay 31 = .ok (.if_icmp .ne 7, 3) := by decide +kernel
theorem d_Da_partOfDay_34 : decode b_Da_partOfDay 34 = .ok (.iconst 0, 1) := by decide +kernel
theorem d_Da_partOfDay_35 : decode b_Da_partOfDay 35 = .ok (.goto 4, 3) := by decide +kernel
theorem d_Da_partOfDay_38 : decode b_Da_partOfDay 38 = .ok (.iload_n 3, 1) := by decide +kernel
theorem d_Da_partOfDay_39 : decode b_Da_partOfDay 39 = .ok (.istore 4, 2) := by decide +kernel
theorem d_Da_partOfDay_41 : decode b_Da_partOfDay 41 = .ok (.iload_n 0, 1) := by decide +kernel
theorem d_Da_partOfDay_42 : decode b_Da_partOfDay 42 = .ok (.lookupswitch 50 #[(89, 26), (90, 37)], 26) := by decide +kernel
theorem d_Da_partOfDay_68 : decode b_Da_partOfDay 68 = .ok (.iload 4, 2) := by decide +kernel
theorem d_Da_partOfDay_70 : decode b_Da_partOfDay 70 = .ok (.sipush 3600, 3) := by decide +kernel
theorem d_Da_partOfDay_73 : decode b_Da_partOfDay 73 = .ok (.idiv, 1) := by decide +kernel
theorem d_Da_partOfDay_74 : decode b_Da_partOfDay 74 = .ok (.i2d, 1) := by decide +kernel
theorem d_Da_partOfDay_75 : decode b_Da_partOfDay 75 = .ok (.invokestatic 59, 3) := by decide +kernel
theorem d_Da_partOfDay_78 : decode b_Da_partOfDay 78 = .ok (.areturn, 1) := by decide +kernel
theorem d_Da_partOfDay_79 : decode b_Da_partOfDay 79 = .ok (.iload 4, 2) := by decide +kernel
theorem d_Da_partOfDay_81 : decode b_Da_partOfDay 81 = .ok (.bipush 60, 2) := by decide +kernel
theorem d_Da_partOfDay_83 : decode b_Da_partOfDay 83 = .ok (.idiv, 1) := by decide +kernel
theorem d_Da_partOfDay_84 : decode b_Da_partOfDay 84 = .ok (.bipush 60, 2) := by decide +kernel
theorem d_Da_partOfDay_86 : decode b_Da_partOfDay 86 = .ok (.irem, 1) := by decide +kernel
theorem d_Da_partOfDay_87 : decode b_Da_partOfDay 87 = .ok (.i2d, 1) := by decide +kernel
theorem d_Da_partOfDay_88 : decode b_Da_partOfDay 88 = .ok (.invokestatic 59, 3) := by decide +kernel
theorem d_Da_partOfDay_91 : decode b_Da_partOfDay 91 = .ok (.areturn, 1) := by decide +kernel
theorem d_Da_partOfDay_92 : decode b_Da_partOfDay 92 = .ok (.iload 4, 2) := by decide +kernel
theorem d_Da_partOfDay_94 : decode b_Da_partOfDay 94 = .ok (.bipush 60, 2) := by decide +kernel
theorem d_Da_partOfDay_96 : decode b_Da_partOfDay 96 = .ok (.irem, 1) := by decide +kernel
theorem d_Da_partOfDay_97 : decode b_Da_partOfDay 97 = .ok (.i2d, 1) := by decide +kernel
theorem d_Da_partOfDay_98 : decode b_Da_partOfDay 98 = .ok (.invokestatic 59, 3) := by decide +kernel
theorem d_Da_partOfDay_101 : decode b_Da_partOfDay 101 = .ok (.areturn, 1) := by decide +kernel
theorem p_Da_partOfDay_b39 (d : Nat)  (v0 : Int32) (s0 : Int32) (h : gk_H) : gk_P gw_R (d + 3) y_Da_partOfDay b_Da_partOfDay 5 (some (.object "ValueAlgebra$Value")) [] (f_Da_partOfDay_b39  v0 s0 h) 39 [(0, .int v0)] [.int s0] h := by
  unfold f_Da_partOfDay_b39
  refine gk_istore (pc := 39) (L' := [(4, .int s0), (0, .int v0)]) d_Da_partOfDay_39 (Nat.le_of_ble_eq_true rfl) rfl ?_
  refine gk_iload_n (pc := 41) 1 d_Da_partOfDay_41 rfl ?_
  refine gk_ite (fun z42_0 => ?_) (fun z42_0 => ?_)
  · refine gk_lsw (pc := 42) 68 d_Da_partOfDay_42 (by decide) (by rw [z42_0]) rfl ?_
    refine gk_iload (pc := 68) 0 d_Da_partOfDay_68 rfl ?_
    refine gk_sipush (pc := 70) (3600 : Int32) d_Da_partOfDay_70 rfl ?_
    refine gk_idiv (pc := 73) (by decide) d_Da_partOfDay_73 ?_
    refine gk_i2d (pc := 74) d_Da_partOfDay_74 ?_
    refine gk_callS (pc := 75) (d := (d + 2)) (w' := gv_R) (as := [.double (FP.i2d (s0 / (3600 : Int32)))]) (n := 1) d_Da_partOfDay_75 rfl rfl (Nat.le_of_ble_eq_true rfl) tw_1531 tw_317 tw_97 cw_Va_ofNumber hy_Va_ofNumber (Nat.le_of_ble_eq_true rfl) (p_Va_ofNumber d (FP.i2d (s0 / (3600 : Int32))) h) fun x1 h1 => ?_
    exact gk_aret (pc := 78) rfl d_Da_partOfDay_78 rfl (Or.inl ⟨_, rfl⟩)
  ·
    refine gk_ite (fun z42_1 => ?_) (fun z42_1 => ?_)
    · refine gk_lsw (pc := 42) 79 d_Da_partOfDay_42 (by decide) (by rw [z42_1]) rfl ?_
      refine gk_iload (pc := 79) 0 d_Da_partOfDay_79 rfl ?_
      refine gk_bipush (pc := 81) (60 : Int32) d_Da_partOfDay_81 rfl ?_
      refine gk_idiv (pc := 83) (by decide) d_Da_partOfDay_83 ?_
      refine gk_bipush (pc := 84) (60 : Int32) d_Da_partOfDay_84 rfl ?_
      refine gk_irem (pc := 86) (by decide) d_Da_partOfDay_86 ?_
      refine gk_i2d (pc := 87) d_Da_partOfDay_87 ?_
      refine gk_callS (pc := 88) (d := (d + 2)) (w' := gv_R) (as := [.double (FP.i2d ((s0 / (60 : Int32)) - (s0 / (60 : Int32)) / (60 : Int32) * (60 : Int32)))]) (n := 1) d_Da_partOfDay_88 rfl rfl (Nat.le_of_ble_eq_true rfl) tw_1531 tw_317 tw_97 cw_Va_ofNumber hy_Va_ofNumber (Nat.le_of_ble_eq_true rfl) (p_Va_ofNumber d (FP.i2d ((s0 / (60 : Int32)) - (s0 / (60 : Int32)) / (60 : Int32) * (60 : Int32))) h) fun x2 h2 => ?_
      exact gk_aret (pc := 91) rfl d_Da_partOfDay_91 rfl (Or.inl ⟨_, rfl⟩)
    ·
      refine gk_lsw (pc := 42) 92 d_Da_partOfDay_42 (by decide) (by show Op.lookupswitch.offset [(89, 26), (90, 37)] _ _ = _; rw [lv_osw z42_0 (by decide), lv_osw z42_1 (by decide)]) rfl ?_
      refine gk_iload (pc := 92) 0 d_Da_partOfDay_92 rfl ?_
      refine gk_bipush (pc := 94) (60 : Int32) d_Da_partOfDay_94 rfl ?_
      refine gk_irem (pc := 96) (by decide) d_Da_partOfDay_96 ?_
      refine gk_i2d (pc := 97) d_Da_partOfDay_97 ?_
      refine gk_callS (pc := 98) (d := (d + 2)) (w' := gv_R) (as := [.double (FP.i2d (s0 - s0 / (60 : Int32) * (60 : Int32)))]) (n := 1) d_Da_partOfDay_98 rfl rfl (Nat.le_of_ble_eq_true rfl) tw_1531 tw_317 tw_97 cw_Va_ofNumber hy_Va_ofNumber (Nat.le_of_ble_eq_true rfl) (p_Va_ofNumber d (FP.i2d (s0 - s0 / (60 : Int32) * (60 : Int32))) h) fun x3 h3 => ?_
      exact gk_aret (pc := 101) rfl d_Da_partOfDay_101 rfl (Or.inl ⟨_, rfl⟩)
theorem w_Da_partOfDay (d : Nat) (a0 : Int32) (a1 : UInt64) (h : gk_H) : gk_P gw_R (d + 3) y_Da_partOfDay b_Da_partOfDay 5 (some (.object "ValueAlgebra$Value")) [] (f_Da_partOfDay a0 a1 h) 0 [(0, .int a0), (1, .double a1)] [] h := by
  unfold f_Da_partOfDay
  refine gk_dload_n (pc := 0) 1 d_Da_partOfDay_0 rfl ?_
  refine gk_dconst0 (pc := 1) d_Da_partOfDay_1 ?_
  refine gk_dcmp (pc := 2) d_Da_partOfDay_2 ?_
  refine gk_if_ge (pc := 3) 12 d_Da_partOfDay_3 rfl (fun _ => ?_) (fun _ => ?_)
  · refine gk_dload_n (pc := 12) 1 d_Da_partOfDay_12 rfl ?_
    refine gk_dload_n (pc := 13) 1 d_Da_partOfDay_13 rfl ?_
    refine gk_callS (pc := 14) (d := (d + 2)) (w' := gv_D) (as := [.double a1]) (n := 1) d_Da_partOfDay_14 rfl rfl (Nat.le_of_ble_eq_true rfl) tw_1564 tw_1237 tw_117 cw_Am_floor hy_Am_floor (Nat.le_of_ble_eq_true rfl) (p_Am_floor d a1 h) fun x1 h1 => ?_
    refine gk_dsubN (pc := 17) d_Da_partOfDay_17 fun x2 => ?_
    refine gk_ldc2d (pc := 18) tw_1560 d_Da_partOfDay_18 ?_
    refine gk_dmulN (pc := 21) d_Da_partOfDay_21 fun x3 => ?_
    refine gk_ldc2d (pc := 22) tw_1565 d_Da_partOfDay_22 ?_
    refine gk_daddN (pc := 25) d_Da_partOfDay_25 fun x4 => ?_
    refine gk_d2i (pc := 26) d_Da_partOfDay_26 ?_
    refine gk_topI (pc := 27) fun x5 => ?_
    refine gk_istore_n (pc := 27) (L' := [(3, .int x5), (0, .int a0), (1, .double a1)]) d_Da_partOfDay_27 (Nat.le_of_ble_eq_true rfl) rfl ?_
    refine gk_iload_n (pc := 28) 0 d_Da_partOfDay_28 rfl ?_
    refine gk_ldc (pc := 29) tw_1566 d_Da_partOfDay_29 ?_
    refine gk_icmp_ne (pc := 31) 38 d_Da_partOfDay_31 rfl (fun _ => ?_) (fun _ => ?_)
    · refine gk_iconst (pc := 34) (0 : Int32) d_Da_partOfDay_34 rfl ?_
      refine gk_goto (pc := 35) 39 d_Da_partOfDay_35 rfl ?_
      refine gk_weak [1] (L' := [(0, .int a0)]) rfl ?_
      exact p_Da_partOfDay_b39 d a0 (0 : Int32) h1
    · refine gk_iload_n (pc := 38) 0 d_Da_partOfDay_38 rfl ?_
      refine gk_weak [1] (L' := [(0, .int a0)]) rfl ?_
      exact p_Da_partOfDay_b39 d a0 x5 h1
  · refine gk_bipush (pc := 6) (6 : Int32) d_Da_partOfDay_6 rfl ?_
    refine gk_callS (pc := 8) (d := (d + 2)) (w' := gv_R) (as := [.int (6 : Int32)]) (n := 1) d_Da_partOfDay_8 rfl rfl (Nat.le_of_ble_eq_true rfl) tw_1513 tw_236 tw_97 cw_Va_ofError hy_Va_ofError (Nat.le_of_ble_eq_true rfl) (p_Va_ofError d (6 : Int32) h) fun x6 h2 => ?_
    exact gk_aret (pc := 11) rfl d_Da_partOfDay_11 rfl (Or.inl ⟨_, rfl⟩)
theorem p_Da_partOfDay (d : Nat) (a0 : Int32) (a1 : UInt64) (h : gk_H) : ∀ r h1, f_Da_partOfDay a0 a1 h = some (r, h1) → gk_M (d + 3) y_Da_partOfDay b_Da_partOfDay 5 (some (.object "ValueAlgebra$Value")) [.int a0, .double a1] h (.inl (gv_R r)) h1 :=
  fun r h1 e => gk_M_of2 (by decide +kernel) (by simp [lv_args, gk_cat_rf, gk_catI, gk_catJ, gk_catD, gv_V, gv_I, gv_J, gv_D, gv_R]) (by simp [lg_sl, gk_cat_rf, gk_catI, gk_catJ, gk_catD, gv_V, gv_I, gv_J, gv_D, gv_R]) (w_Da_partOfDay d a0 a1 h r h1 e)
theorem d_Da_time_0 : decode b_Da_time 0 = .ok (.lload_n 0, 1) := by decide +kernel
theorem d_Da_time_1 : decode b_Da_time 1 = .ok (.lconst 0, 1) := by decide +kernel
theorem d_Da_time_2 : decode b_Da_time 2 = .ok (.lcmp, 1) := by decide +kernel
theorem d_Da_time_3 : decode b_Da_time 3 = .ok (.ifCond .lt 41, 3) := by decide +kernel
theorem d_Da_time_6 : decode b_Da_time 6 = .ok (.lload_n 0, 1) := by decide +kernel
theorem d_Da_time_7 : decode b_Da_time 7 = .ok (.ldc2_w 55, 3) := by decide +kernel
theorem d_Da_time_10 : decode b_Da_time 10 = .ok (.lcmp, 1) := by decide +kernel
theorem d_Da_time_11 : decode b_Da_time 11 = .ok (.ifCond .gt 33, 3) := by decide +kernel
theorem d_Da_time_14 : decode b_Da_time 14 = .ok (.lload_n 2, 1) := by decide +kernel
theorem d_Da_time_15 : decode b_Da_time 15 = .ok (.lconst 0, 1) := by decide +kernel
theorem d_Da_time_16 : decode b_Da_time 16 = .ok (.lcmp, 1) := by decide +kernel
theorem d_Da_time_17 : decode b_Da_time 17 = .ok (.ifCond .lt 27, 3) := by decide +kernel
theorem d_Da_time_20 : decode b_Da_time 20 = .ok (.lload_n 2, 1) := by decide +kernel
theorem d_Da_time_21 : decode b_Da_time 21 = .ok (.ldc2_w 55, 3) := by decide +kernel
theorem d_Da_time_24 : decode b_Da_time 24 = .ok (.lcmp, 1) := by decide +kernel
theorem d_Da_time_25 : decode b_Da_time 25 = .ok (.ifCond .gt 19, 3) := by decide +kernel
theorem d_Da_time_28 : decode b_Da_time 28 = .ok (.lload 4, 2) := by decide +kernel
theorem d_Da_time_30 : decode b_Da_time 30 = .ok (.lconst 0, 1) := by decide +kernel
theorem d_Da_time_31 : decode b_Da_time 31 = .ok (.lcmp, 1) := by decide +kernel
theorem d_Da_time_32 : decode b_Da_time 32 = .ok (.ifCond .lt 12, 3) := by decide +kernel
theorem d_Da_time_35 : decode b_Da_time 35 = .ok (.lload 4, 2) := by decide +kernel
theorem d_Da_time_37 : decode b_Da_time 37 = .ok (.ldc2_w 55, 3) := by decide +kernel
theorem d_Da_time_40 : decode b_Da_time 40 = .ok (.lcmp, 1) := by decide +kernel
theorem d_Da_time_41 : decode b_Da_time 41 = .ok (.ifCond .le 9, 3) := by decide +kernel
theorem d_Da_time_44 : decode b_Da_time 44 = .ok (.bipush 6, 2) := by decide +kernel
theorem d_Da_time_46 : decode b_Da_time 46 = .ok (.invokestatic 49, 3) := by decide +kernel
theorem d_Da_time_49 : decode b_Da_time 49 = .ok (.areturn, 1) := by decide +kernel
theorem d_Da_time_50 : decode b_Da_time 50 = .ok (.ldc2_w 110, 3) := by decide +kernel
theorem d_Da_time_53 : decode b_Da_time 53 = .ok (.lload_n 0, 1) := by decide +kernel
theorem d_Da_time_54 : decode b_Da_time 54 = .ok (.lmul, 1) := by decide +kernel
theorem d_Da_time_55 : decode b_Da_time 55 = .ok (.ldc2_w 112, 3) := by decide +kernel
theorem d_Da_time_58 : decode b_Da_time 58 = .ok (.lload_n 2, 1) := by decide +kernel
theorem d_Da_time_59 : decode b_Da_time 59 = .ok (.lmul, 1) := by decide +kernel
theorem d_Da_time_60 : decode b_Da_time 60 = .ok (.ladd, 1) := by decide +kernel
theorem d_Da_time_61 : decode b_Da_time 61 = .ok (.lload 4, 2) := by decide +kernel
theorem d_Da_time_63 : decode b_Da_time 63 = .ok (.ladd, 1) := by decide +kernel
theorem d_Da_time_64 : decode b_Da_time 64 = .ok (.lstore 6, 2) := by decide +kernel
theorem d_Da_time_66 : decode b_Da_time 66 = .ok (.lload 6, 2) := by decide +kernel
theorem d_Da_time_68 : decode b_Da_time 68 = .ok (.ldc2_w 114, 3) := by decide +kernel
theorem d_Da_time_71 : decode b_Da_time 71 = .ok (.lrem, 1) := by decide +kernel
theorem d_Da_time_72 : decode b_Da_time 72 = .ok (.l2d, 1) := by decide +kernel
theorem d_Da_time_73 : decode b_Da_time 73 = .ok (.ldc2_w 116, 3) := by decide +kernel
theorem d_Da_time_76 : decode b_Da_time 76 = .ok (.ddiv, 1) := by decide +kernel
theorem d_Da_time_77 : decode b_Da_time 77 = .ok (.invokestatic 59, 3) := by decide +kernel
theorem d_Da_time_80 : decode b_Da_time 80 = .ok (.areturn, 1) := by decide +kernel
theorem p_Da_time_b44 (d : Nat)   (h : gk_H) : gk_P gw_R (d + 3) y_Da_time b_Da_time 8 (some (.object "ValueAlgebra$Value")) [] (f_Da_time_b44   h) 44 [] [] h := by
  unfold f_Da_time_b44
  refine gk_bipush (pc := 44) (6 : Int32) d_Da_time_44 rfl ?_
  refine gk_callS (pc := 46) (d := (d + 2)) (w' := gv_R) (as := [.int (6 : Int32)]) (n := 1) d_Da_time_46 rfl rfl (Nat.le_of_ble_eq_true rfl) tw_1513 tw_236 tw_97 cw_Va_ofError hy_Va_ofError (Nat.le_of_ble_eq_true rfl) (p_Va_ofError d (6 : Int32) h) fun x1 h1 => ?_
  exact gk_aret (pc := 49) rfl d_Da_time_49 rfl (Or.inl ⟨_, rfl⟩)
theorem w_Da_time (d : Nat) (a0 : Int64) (a1 : Int64) (a2 : Int64) (h : gk_H) : gk_P gw_R (d + 3) y_Da_time b_Da_time 8 (some (.object "ValueAlgebra$Value")) [] (f_Da_time a0 a1 a2 h) 0 [(0, .long a0), (2, .long a1), (4, .long a2)] [] h := by
  unfold f_Da_time
  refine gk_lload_n (pc := 0) 0 d_Da_time_0 rfl ?_
  refine gk_lconst (pc := 1) (0 : Int64) d_Da_time_1 rfl ?_
  refine gk_lcmp (pc := 2) d_Da_time_2 ?_
  refine gk_if_lt (pc := 3) 44 d_Da_time_3 rfl (fun _ => ?_) (fun _ => ?_)
  · refine gk_weak [] (L' := []) rfl ?_
    exact p_Da_time_b44 d h
  · refine gk_lload_n (pc := 6) 0 d_Da_time_6 rfl ?_
    refine gk_ldc2 (pc := 7) tw_1512 d_Da_time_7 ?_
    refine gk_lcmp (pc := 10) d_Da_time_10 ?_
    refine gk_if_gt (pc := 11) 44 d_Da_time_11 rfl (fun _ => ?_) (fun _ => ?_)
    · refine gk_weak [] (L' := []) rfl ?_
      exact p_Da_time_b44 d h
    · refine gk_lload_n (pc := 14) 1 d_Da_time_14 rfl ?_
      refine gk_lconst (pc := 15) (0 : Int64) d_Da_time_15 rfl ?_
      refine gk_lcmp (pc := 16) d_Da_time_16 ?_
      refine gk_if_lt (pc := 17) 44 d_Da_time_17 rfl (fun _ => ?_) (fun _ => ?_)
      · refine gk_weak [] (L' := []) rfl ?_
        exact p_Da_time_b44 d h
      · refine gk_lload_n (pc := 20) 1 d_Da_time_20 rfl ?_
        refine gk_ldc2 (pc := 21) tw_1512 d_Da_time_21 ?_
        refine gk_lcmp (pc := 24) d_Da_time_24 ?_
        refine gk_if_gt (pc := 25) 44 d_Da_time_25 rfl (fun _ => ?_) (fun _ => ?_)
        · refine gk_weak [] (L' := []) rfl ?_
          exact p_Da_time_b44 d h
        · refine gk_lload (pc := 28) 2 d_Da_time_28 rfl ?_
          refine gk_lconst (pc := 30) (0 : Int64) d_Da_time_30 rfl ?_
          refine gk_lcmp (pc := 31) d_Da_time_31 ?_
          refine gk_if_lt (pc := 32) 44 d_Da_time_32 rfl (fun _ => ?_) (fun _ => ?_)
          · refine gk_weak [] (L' := []) rfl ?_
            exact p_Da_time_b44 d h
          · refine gk_lload (pc := 35) 2 d_Da_time_35 rfl ?_
            refine gk_ldc2 (pc := 37) tw_1512 d_Da_time_37 ?_
            refine gk_lcmp (pc := 40) d_Da_time_40 ?_
            refine gk_if_le (pc := 41) 50 d_Da_time_41 rfl (fun _ => ?_) (fun _ => ?_)
            · refine gk_ldc2 (pc := 50) tw_1557 d_Da_time_50 ?_
              refine gk_lload_n (pc := 53) 0 d_Da_time_53 rfl ?_
              refine gk_lmul (pc := 54) d_Da_time_54 ?_
              refine gk_ldc2 (pc := 55) tw_1558 d_Da_time_55 ?_
              refine gk_lload_n (pc := 58) 1 d_Da_time_58 rfl ?_
              refine gk_lmul (pc := 59) d_Da_time_59 ?_
              refine gk_ladd (pc := 60) d_Da_time_60 ?_
              refine gk_lload (pc := 61) 2 d_Da_time_61 rfl ?_
              refine gk_ladd (pc := 63) d_Da_time_63 ?_
              refine gk_topJ (pc := 64) fun x1 => ?_
              refine gk_lstore (pc := 64) (L' := [(6, .long x1), (0, .long a0), (2, .long a1), (4, .long a2)]) d_Da_time_64 (Nat.le_of_ble_eq_true rfl) rfl ?_
              refine gk_lload (pc := 66) 0 d_Da_time_66 rfl ?_
              refine gk_ldc2 (pc := 68) tw_1559 d_Da_time_68 ?_
              refine gk_lrem (pc := 71) (by decide) d_Da_time_71 ?_
              refine gk_l2d (pc := 72) d_Da_time_72 ?_
              refine gk_ldc2d (pc := 73) tw_1560 d_Da_time_73 ?_
              refine gk_ddivN (pc := 76) d_Da_time_76 fun x2 => ?_
              refine gk_callS (pc := 77) (d := (d + 2)) (w' := gv_R) (as := [.double x2]) (n := 1) d_Da_time_77 rfl rfl (Nat.le_of_ble_eq_true rfl) tw_1531 tw_317 tw_97 cw_Va_ofNumber hy_Va_ofNumber (Nat.le_of_ble_eq_true rfl) (p_Va_ofNumber d x2 h) fun x3 h1 => ?_
              exact gk_aret (pc := 80) rfl d_Da_time_80 rfl (Or.inl ⟨_, rfl⟩)
            · refine gk_weak [] (L' := []) rfl ?_
              exact p_Da_time_b44 d h
theorem p_Da_time (d : Nat) (a0 : Int64) (a1 : Int64) (a2 : Int64) (h : gk_H) : ∀ r h1, f_Da_time a0 a1 a2 h = some (r, h1) → gk_M (d + 3) y_Da_time b_Da_time 8 (some (.object "ValueAlgebra$Value")) [.long a0, .long a1, .long a2] h (.inl (gv_R r)) h1 :=
  fun r h1 e => gk_M_of2 (by decide +kernel) (by simp [lv_args, gk_cat_rf, gk_catI, gk_catJ, gk_catD, gv_V, gv_I, gv_J, gv_D, gv_R]) (by simp [lg_sl, gk_cat_rf, gk_catI, gk_catJ, gk_catD, gv_V, gv_I, gv_J, gv_D, gv_R]) (w_Da_time d a0 a1 a2 h r h1 e)
theorem d_Da_dayOf_0 : decode b_Da_dayOf 0 = .ok (.dload_n 0, 1) := by decide +kernel
theorem d_Da_dayOf_1 : decode b_Da_dayOf 1 = .ok (.dconst 0, 1) := by decide +kernel
theorem d_Da_dayOf_2 : decode b_Da_dayOf 2 = .ok (.dcmp .l, 1) := by decide +kernel
theorem d_Da_dayOf_3 : decode b_Da_dayOf 3 = .ok (.ifCond .lt 16, 3) := by decide +kernel
theorem d_Da_dayOf_6 : decode b_Da_dayOf 6 = .ok (.dload_n 0, 1) := by decide +kernel
theorem d_Da_dayOf_7 : decode b_Da_dayOf 7 = .ok (.ldc2_w 63, 3) := by decide +kernel
theorem d_Da_dayOf_10 : decode b_Da_dayOf 10 = .ok (.dcmp .g, 1) := by decide +kernel
theorem d_Da_dayOf_11 : decode b_Da_dayOf 11 = .ok (.ifCond .ge 8, 3) := by decide +kernel
theorem d_Da_dayOf_14 : decode b_Da_dayOf 14 = .ok (.dload_n 0, 1) := by decide +kernel
theorem d_Da_dayOf_15 : decode b_Da_dayOf 15 = .ok (.d2i, 1) := by decide +kernel
theorem d_Da_dayOf_16 : decode b_Da_dayOf 16 = .ok (.goto 4, 3) := by decide +kernel
theorem d_Da_dayOf_19 : decode b_Da_dayOf 19 = .ok (.iconst (-1), 1) := by decide +kernel
theorem d_Da_dayOf_20 : decode b_Da_dayOf 20 = .ok (.ireturn, 1) := by decide +kernel
theorem p_Da_dayOf_b20 (d : Nat)  (s0 : Int32) (h : gk_H) : gk_P gw_I d y_Da_dayOf b_Da_dayOf 2 (some .int) [] (f_Da_dayOf_b20  s0 h) 20 [] [.int s0] h := by
  unfold f_Da_dayOf_b20
  exact gk_iret (pc := 20) rfl d_Da_dayOf_20 rfl
theorem p_Da_dayOf_b19 (d : Nat)   (h : gk_H) : gk_P gw_I d y_Da_dayOf b_Da_dayOf 2 (some .int) [] (f_Da_dayOf_b19   h) 19 [] [] h := by
  unfold f_Da_dayOf_b19
  refine gk_iconst (pc := 19) (-1 : Int32) d_Da_dayOf_19 rfl ?_
  exact p_Da_dayOf_b20 d (-1 : Int32) h
theorem w_Da_dayOf (d : Nat) (a0 : UInt64) (h : gk_H) : gk_P gw_I d y_Da_dayOf b_Da_dayOf 2 (some .int) [] (f_Da_dayOf a0 h) 0 [(0, .double a0)] [] h := by
  unfold f_Da_dayOf
  refine gk_dload_n (pc := 0) 0 d_Da_dayOf_0 rfl ?_
  refine gk_dconst0 (pc := 1) d_Da_dayOf_1 ?_
  refine gk_dcmp (pc := 2) d_Da_dayOf_2 ?_
  refine gk_if_lt (pc := 3) 19 d_Da_dayOf_3 rfl (fun _ => ?_) (fun _ => ?_)
  · refine gk_weak [] (L' := []) rfl ?_
    exact p_Da_dayOf_b19 d h
  · refine gk_dload_n (pc := 6) 0 d_Da_dayOf_6 rfl ?_
    refine gk_ldc2d (pc := 7) tw_1539 d_Da_dayOf_7 ?_
    refine gk_dcmp (pc := 10) d_Da_dayOf_10 ?_
    refine gk_if_ge (pc := 11) 19 d_Da_dayOf_11 rfl (fun _ => ?_) (fun _ => ?_)
    · refine gk_weak [] (L' := []) rfl ?_
      exact p_Da_dayOf_b19 d h
    · refine gk_dload_n (pc := 14) 0 d_Da_dayOf_14 rfl ?_
      refine gk_d2i (pc := 15) d_Da_dayOf_15 ?_
      refine gk_goto (pc := 16) 20 d_Da_dayOf_16 rfl ?_
      refine gk_weak [] (L' := []) rfl ?_
      exact p_Da_dayOf_b20 d (FP.d2i a0) h
theorem p_Da_dayOf (d : Nat) (a0 : UInt64) (h : gk_H) : ∀ r h1, f_Da_dayOf a0 h = some (r, h1) → gk_M d y_Da_dayOf b_Da_dayOf 2 (some .int) [.double a0] h (.inl (gv_I r)) h1 :=
  fun r h1 e => gk_M_of2 (by decide +kernel) (by simp [lv_args, gk_cat_rf, gk_catI, gk_catJ, gk_catD, gv_V, gv_I, gv_J, gv_D, gv_R]) (by simp [lg_sl, gk_cat_rf, gk_catI, gk_catJ, gk_catD, gv_V, gv_I, gv_J, gv_D, gv_R]) (w_Da_dayOf d a0 h r h1 e)
theorem d_Da_isShort_0 : decode b_Da_isShort 0 = .ok (.lload_n 0, 1) := by decide +kernel
theorem d_Da_isShort_1 : decode b_Da_isShort 1 = .ok (.ldc2_w 53, 3) := by decide +kernel
theorem d_Da_isShort_4 : decode b_Da_isShort 4 = .ok (.lcmp, 1) := by decide +kernel
theorem d_Da_isShort_5 : decode b_Da_isShort 5 = .ok (.ifCond .lt 15, 3) := by decide +kernel
theorem d_Da_isShort_8 : decode b_Da_isShort 8 = .ok (.lload_n 0, 1) := by decide +kernel
theorem d_Da_isShort_9 : decode b_Da_isShort 9 = .ok (.ldc2_w 55, 3) := by decide +kernel
theorem d_Da_isShort_12 : decode b_Da_isShort 12 = .ok (.lcmp, 1) := by decide +kernel
theorem d_Da_isShort_13 : decode b_Da_isShort 13 = .ok (.ifCond .gt 7, 3) := by decide +kernel
theorem d_Da_isShort_16 : decode b_Da_isShort 16 = .ok (.iconst 1, 1) := by decide +kernel
theorem d_Da_isShort_17 : decode b_Da_isShort 17 = .ok (.goto 4, 3) := by decide +kernel
theorem d_Da_isShort_20 : decode b_Da_isShort 20 = .ok (.iconst 0, 1) := by decide +kernel
theorem d_Da_isShort_21 : decode b_Da_isShort 21 = .ok (.ireturn, 1) := by decide +kernel
theorem p_Da_isShort_b21 (d : Nat)  (s0 : Int32) (h : gk_H) : gk_P gw_I d y_Da_isShort b_Da_isShort 2 (some .boolean) [] (f_Da_isShort_b21  s0 h) 21 [] [.int s0] h := by
  unfold f_Da_isShort_b21
  exact gk_zret (pc := 21) rfl d_Da_isShort_21 rfl
theorem p_Da_isShort_b20 (d : Nat)   (h : gk_H) : gk_P gw_I d y_Da_isShort b_Da_isShort 2 (some .boolean) [] (f_Da_isShort_b20   h) 20 [] [] h := by
  unfold f_Da_isShort_b20
  refine gk_iconst (pc := 20) (0 : Int32) d_Da_isShort_20 rfl ?_
  exact p_Da_isShort_b21 d (0 : Int32) h
theorem w_Da_isShort (d : Nat) (a0 : Int64) (h : gk_H) : gk_P gw_I d y_Da_isShort b_Da_isShort 2 (some .boolean) [] (f_Da_isShort a0 h) 0 [(0, .long a0)] [] h := by
  unfold f_Da_isShort
  refine gk_lload_n (pc := 0) 0 d_Da_isShort_0 rfl ?_
  refine gk_ldc2 (pc := 1) tw_1511 d_Da_isShort_1 ?_
  refine gk_lcmp (pc := 4) d_Da_isShort_4 ?_
  refine gk_if_lt (pc := 5) 20 d_Da_isShort_5 rfl (fun _ => ?_) (fun _ => ?_)
  · refine gk_weak [] (L' := []) rfl ?_
    exact p_Da_isShort_b20 d h
  · refine gk_lload_n (pc := 8) 0 d_Da_isShort_8 rfl ?_
    refine gk_ldc2 (pc := 9) tw_1512 d_Da_isShort_9 ?_
    refine gk_lcmp (pc := 12) d_Da_isShort_12 ?_
    refine gk_if_gt (pc := 13) 20 d_Da_isShort_13 rfl (fun _ => ?_) (fun _ => ?_)
    · refine gk_weak [] (L' := []) rfl ?_
      exact p_Da_isShort_b20 d h
    · refine gk_iconst (pc := 16) (1 : Int32) d_Da_isShort_16 rfl ?_
      refine gk_goto (pc := 17) 21 d_Da_isShort_17 rfl ?_
      refine gk_weak [] (L' := []) rfl ?_
      exact p_Da_isShort_b21 d (1 : Int32) h
theorem p_Da_isShort (d : Nat) (a0 : Int64) (h : gk_H) : ∀ r h1, f_Da_isShort a0 h = some (r, h1) → gk_M d y_Da_isShort b_Da_isShort 2 (some .boolean) [.long a0] h (.inl (gv_I r)) h1 :=
  fun r h1 e => gk_M_of2 (by decide +kernel) (by simp [lv_args, gk_cat_rf, gk_catI, gk_catJ, gk_catD, gv_V, gv_I, gv_J, gv_D, gv_R]) (by simp [lg_sl, gk_cat_rf, gk_catI, gk_catJ, gk_catD, gv_V, gv_I, gv_J, gv_D, gv_R]) (w_Da_isShort d a0 h r h1 e)
theorem d_Da_isLeap_0 : decode b_Da_isLeap 0 = .ok (.iload_n 0, 1) := by decide +kernel
theorem d_Da_isLeap_1 : decode b_Da_isLeap 1 = .ok (.iconst 4, 1) := by decide +kernel
theorem d_Da_isLeap_2 : decode b_Da_isLeap 2 = .ok (.irem, 1) := by decide +kernel
theorem d_Da_isLeap_3 : decode b_Da_isLeap 3 = .ok (.ifCond .ne 22, 3) := by decide +kernel
theorem d_Da_isLeap_6 : decode b_Da_isLeap 6 = .ok (.iload_n 0, 1) := by decide +kernel
theorem d_Da_isLeap_7 : decode b_Da_isLeap 7 = .ok (.bipush 100, 2) := by decide +kernel
theorem d_Da_isLeap_9 : decode b_Da_isLeap 9 = .ok (.irem, 1) := by decide +kernel
theorem d_Da_isLeap_10 : decode b_Da_isLeap 10 = .ok (.ifCond .ne 11, 3) := by decide +kernel
theorem d_Da_isLeap_13 : decode b_Da_isLeap 13 = .ok (.iload_n 0, 1) := by decide +kernel
theorem d_Da_isLeap_14 : decode b_Da_isLeap 14 = .ok (.sipush 400, 3) := by decide +kernel
theorem d_Da_isLeap_17 : decode b_Da_isLeap 17 = .ok (.irem, 1) := by decide +kernel
theorem d_Da_isLeap_18 : decode b_Da_isLeap 18 = .ok (.ifCond .ne 7, 3) := by decide +kernel
theorem d_Da_isLeap_21 : decode b_Da_isLeap 21 = .ok (.iconst 1, 1) := by decide +kernel
theorem d_Da_isLeap_22 : decode b_Da_isLeap 22 = .ok (.goto 4, 3) := by decide +kernel
theorem d_Da_isLeap_25 : decode b_Da_isLeap 25 = .ok (.iconst 0, 1) := by decide +kernel
theorem d_Da_isLeap_26 : decode b_Da_isLeap 26 = .ok (.ireturn, 1) := by decide +kernel
theorem p_Da_isLeap_b26 (d : Nat)  (s0 : Int32) (h : gk_H) : gk_P gw_I d y_Da_isLeap b_Da_isLeap 1 (some .boolean) [] (f_Da_isLeap_b26  s0 h) 26 [] [.int s0] h := by
  unfold f_Da_isLeap_b26
  exact gk_zret (pc := 26) rfl d_Da_isLeap_26 rfl
theorem p_Da_isLeap_b25 (d : Nat)   (h : gk_H) : gk_P gw_I d y_Da_isLeap b_Da_isLeap 1 (some .boolean) [] (f_Da_isLeap_b25   h) 25 [] [] h := by
  unfold f_Da_isLeap_b25
  refine gk_iconst (pc := 25) (0 : Int32) d_Da_isLeap_25 rfl ?_
  exact p_Da_isLeap_b26 d (0 : Int32) h
theorem p_Da_isLeap_b21 (d : Nat)   (h : gk_H) : gk_P gw_I d y_Da_isLeap b_Da_isLeap 1 (some .boolean) [] (f_Da_isLeap_b21   h) 21 [] [] h := by
  unfold f_Da_isLeap_b21
  refine gk_iconst (pc := 21) (1 : Int32) d_Da_isLeap_21 rfl ?_
  refine gk_goto (pc := 22) 26 d_Da_isLeap_22 rfl ?_
  exact p_Da_isLeap_b26 d (1 : Int32) h
theorem w_Da_isLeap (d : Nat) (a0 : Int32) (h : gk_H) : gk_P gw_I d y_Da_isLeap b_Da_isLeap 1 (some .boolean) [] (f_Da_isLeap a0 h) 0 [(0, .int a0)] [] h := by
  unfold f_Da_isLeap
  refine gk_iload_n (pc := 0) 0 d_Da_isLeap_0 rfl ?_
  refine gk_iconst (pc := 1) (4 : Int32) d_Da_isLeap_1 rfl ?_
  refine gk_irem (pc := 2) (by decide) d_Da_isLeap_2 ?_
  refine gk_if_ne (pc := 3) 25 d_Da_isLeap_3 rfl (fun _ => ?_) (fun _ => ?_)
  · refine gk_iload_n (pc := 6) 0 d_Da_isLeap_6 rfl ?_
    refine gk_bipush (pc := 7) (100 : Int32) d_Da_isLeap_7 rfl ?_
    refine gk_irem (pc := 9) (by decide) d_Da_isLeap_9 ?_
    refine gk_if_ne (pc := 10) 21 d_Da_isLeap_10 rfl (fun _ => ?_) (fun _ => ?_)
    · refine gk_iload_n (pc := 13) 0 d_Da_isLeap_13 rfl ?_
      refine gk_sipush (pc := 14) (400 : Int32) d_Da_isLeap_14 rfl ?_
      refine gk_irem (pc := 17) (by decide) d_Da_isLeap_17 ?_
      refine gk_if_ne (pc := 18) 25 d_Da_isLeap_18 rfl (fun _ => ?_) (fun _ => ?_)
      · refine gk_weak [] (L' := []) rfl ?_
        exact p_Da_isLeap_b21 d h
      · refine gk_weak [] (L' := []) rfl ?_
        exact p_Da_isLeap_b25 d h
    · refine gk_weak [] (L' := []) rfl ?_
      exact p_Da_isLeap_b21 d h
  · refine gk_weak [] (L' := []) rfl ?_
    exact p_Da_isLeap_b25 d h
theorem p_Da_isLeap (d : Nat) (a0 : Int32) (h : gk_H) : ∀ r h1, f_Da_isLeap a0 h = some (r, h1) → gk_M d y_Da_isLeap b_Da_isLeap 1 (some .boolean) [.int a0] h (.inl (gv_I r)) h1 :=
  fun r h1 e => gk_M_of2 (by decide +kernel) (by simp [lv_args, gk_cat_rf, gk_catI, gk_catJ, gk_catD, gv_V, gv_I, gv_J, gv_D, gv_R]) (by simp [lg_sl, gk_cat_rf, gk_catI, gk_catJ, gk_catD, gv_V, gv_I, gv_J, gv_D, gv_R]) (w_Da_isLeap d a0 h r h1 e)
theorem d_Da_firstOf_0 : decode b_Da_firstOf 0 = .ok (.sipush 1900, 3) := by decide +kernel
theorem d_Da_firstOf_3 : decode b_Da_firstOf 3 = .ok (.iload_n 0, 1) := by decide +kernel
theorem d_Da_firstOf_4 : decode b_Da_firstOf 4 = .ok (.bipush 12, 2) := by decide +kernel
theorem d_Da_firstOf_6 : decode b_Da_firstOf 6 = .ok (.idiv, 1) := by decide +kernel
theorem d_Da_firstOf_7 : decode b_Da_firstOf 7 = .ok (.iadd, 1) := by decide +kernel
theorem d_Da_firstOf_8 : decode b_Da_firstOf 8 = .ok (.istore_n 1, 1) := by decide +kernel
theorem d_Da_firstOf_9 : decode b_Da_firstOf 9 = .ok (.iload_n 0, 1) := by decide +kernel
theorem d_Da_firstOf_10 : decode b_Da_firstOf 10 = .ok (.bipush 12, 2) := by decide +kernel
theorem d_Da_firstOf_12 : decode b_Da_firstOf 12 = .ok (.invokestatic 65, 3) := by decide +kernel
theorem d_Da_firstOf_15 : decode b_Da_firstOf 15 = .ok (.istore_n 2, 1) := by decide +kernel
theorem d_Da_firstOf_16 : decode b_Da_firstOf 16 = .ok (.iload_n 1, 1) := by decide +kernel
theorem d_Da_firstOf_17 : decode b_Da_firstOf 17 = .ok (.iconst 1, 1) := by decide +kernel
theorem d_Da_firstOf_18 : decode b_Da_firstOf 18 = .ok (.isub, 1) := by decide +kernel
theorem d_Da_firstOf_19 : decode b_Da_firstOf 19 = .ok (.istore_n 3, 1) := by decide +kernel
theorem d_Da_firstOf_20 : decode b_Da_firstOf 20 = .ok (.iload_n 3, 1) := by decide +kernel
theorem d_Da_firstOf_21 : decode b_Da_firstOf 21 = .ok (.iconst 4, 1) := by decide +kernel
theorem d_Da_firstOf_22 : decode b_Da_firstOf 22 = .ok (.idiv, 1) := by decide +kernel
theorem d_Da_firstOf_23 : decode b_Da_firstOf 23 = .ok (.iload_n 3, 1) := by decide +kernel
theorem d_Da_firstOf_24 : decode b_Da_firstOf 24 = .ok (.bipush 100, 2) := by decide +kernel
theorem d_Da_firstOf_26 : decode b_Da_firstOf 26 = .ok (.idiv, 1) := by decide +kernel
theorem d_Da_firstOf_27 : decode b_Da_firstOf 27 = .ok (.isub, 1) := by decide +kernel
theorem d_Da_firstOf_28 : decode b_Da_firstOf 28 = .ok (.iload_n 3, 1) := by decide +kernel
theorem d_Da_firstOf_29 : decode b_Da_firstOf 29 = .ok (.sipush 400, 3) := by decide +kernel
theorem d_Da_firstOf_32 : decode b_Da_firstOf 32 = .ok (.idiv, 1) := by decide +kernel
theorem d_Da_firstOf_33 : decode b_Da_firstOf 33 = .ok (.iadd, 1) := by decide +kernel
theorem d_Da_firstOf_34 : decode b_Da_firstOf 34 = .ok (.sipush 460, 3) := by decide +kernel
theorem d_Da_firstOf_37 : decode b_Da_firstOf 37 = .ok (.isub, 1) := by decide +kernel
theorem d_Da_firstOf_38 : decode b_Da_firstOf 38 = .ok (.istore 4, 2) := by decide +kernel
theorem d_Da_firstOf_40 : decode b_Da_firstOf 40 = .ok (.iconst 1, 1) := by decide +kernel
theorem d_Da_firstOf_41 : decode b_Da_firstOf 41 = .ok (.sipush 365, 3) := by decide +kernel
theorem d_Da_firstOf_44 : decode b_Da_firstOf 44 = .ok (.iload_n 1, 1) := by decide +kernel
theorem d_Da_firstOf_45 : decode b_Da_firstOf 45 = .ok (.sipush 1900, 3) := by decide +kernel
theorem d_Da_firstOf_48 : decode b_Da_firstOf 48 = .ok (.isub, 1) := by decide +kernel
theorem d_Da_firstOf_49 : decode b_Da_firstOf 49 = .ok (.imul, 1) := by decide +kernel
theorem d_Da_firstOf_50 : decode b_Da_firstOf 50 = .ok (.iadd, 1) := by decide +kernel
theorem d_Da_firstOf_51 : decode b_Da_firstOf 51 = .ok (.iload 4, 2) := by decide +kernel
theorem d_Da_firstOf_53 : decode b_Da_firstOf 53 = .ok (.iadd, 1) := by decide +kernel
theorem d_Da_firstOf_54 : decode b_Da_firstOf 54 = .ok (.getstatic 71, 3) := by decide +kernel
theorem d_Da_firstOf_57 : decode b_Da_firstOf 57 = .ok (.iload_n 2, 1) := by decide +kernel
theorem d_Da_firstOf_58 : decode b_Da_firstOf 58 = .ok (.iaload, 1) := by decide +kernel
theorem d_Da_firstOf_59 : decode b_Da_firstOf 59 = .ok (.iadd, 1) := by decide +kernel
theorem d_Da_firstOf_60 : decode b_Da_firstOf 60 = .ok (.istore 5, 2) := by decide +kernel
theorem d_Da_firstOf_62 : decode b_Da_firstOf 62 = .ok (.iload_n 2, 1) := by decide +kernel
theorem d_Da_firstOf_63 : decode b_Da_firstOf 63 = .ok (.iconst 1, 1) := by decide +kernel
theorem d_Da_firstOf_64 : decode b_Da_firstOf 64 = .ok (.if_icmp .le 13, 3) := by decide +kernel
theorem d_Da_firstOf_67 : decode b_Da_firstOf 67 = .ok (.iload_n 1, 1) := by decide +kernel
theorem d_Da_firstOf_68 : decode b_Da_firstOf 68 = .ok (.invokestatic 75, 3) := by decide +kernel
theorem d_Da_firstOf_71 : decode b_Da_firstOf 71 = .ok (.ifCond .eq 6, 3) := by decide +kernel
theorem d_Da_firstOf_74 : decode b_Da_firstOf 74 = .ok (.iinc 5 1, 3) := by decide +kernel
theorem d_Da_firstOf_77 : decode b_Da_firstOf 77 = .ok (.iload_n 0, 1) := by decide +kernel
theorem d_Da_firstOf_78 : decode b_Da_firstOf 78 = .ok (.iconst 1, 1) := by decide +kernel
theorem d_Da_firstOf_79 : decode b_Da_firstOf 79 = .ok (.if_icmp .le 10, 3) := by decide +kernel
theorem d_Da_firstOf_82 : decode b_Da_firstOf 82 = .ok (.iload 5, 2) := by decide +kernel
theorem d_Da_firstOf_84 : decode b_Da_firstOf 84 = .ok (.iconst 1, 1) := by decide +kernel
theorem d_Da_firstOf_85 : decode b_Da_firstOf 85 = .ok (.iadd, 1) := by decide +kernel
theorem d_Da_firstOf_86 : decode b_Da_firstOf 86 = .ok (.goto 5, 3) := by decide +kernel
theorem d_Da_firstOf_89 : decode b_Da_firstOf 89 = .ok (.iload 5, 2) := by decide +kernel
theorem d_Da_firstOf_91 : decode b_Da_firstOf 91 = .ok (.ireturn, 1) := by decide +kernel
theorem p_Da_firstOf_b91 (d : Nat)  (s0 : Int32) (h : gk_H) : gk_P gw_I (d + 1) y_Da_firstOf b_Da_firstOf 6 (some .int) [] (f_Da_firstOf_b91  s0 h) 91 [] [.int s0] h := by
  unfold f_Da_firstOf_b91
  exact gk_iret (pc := 91) rfl d_Da_firstOf_91 rfl
theorem p_Da_firstOf_b77 (d : Nat)  (v0 : Int32) (v5 : Int32) (h : gk_H) : gk_P gw_I (d + 1) y_Da_firstOf b_Da_firstOf 6 (some .int) [] (f_Da_firstOf_b77  v0 v5 h) 77 [(0, .int v0), (5, .int v5)] [] h := by
  unfold f_Da_firstOf_b77
  refine gk_iload_n (pc := 77) 0 d_Da_firstOf_77 rfl ?_
  refine gk_iconst (pc := 78) (1 : Int32) d_Da_firstOf_78 rfl ?_
  refine gk_icmp_le (pc := 79) 89 d_Da_firstOf_79 rfl (fun _ => ?_) (fun _ => ?_)
  · refine gk_iload (pc := 89) 1 d_Da_firstOf_89 rfl ?_
    refine gk_weak [] (L' := []) rfl ?_
    exact p_Da_firstOf_b91 d v5 h
  · refine gk_iload (pc := 82) 1 d_Da_firstOf_82 rfl ?_
    refine gk_iconst (pc := 84) (1 : Int32) d_Da_firstOf_84 rfl ?_
    refine gk_iadd (pc := 85) d_Da_firstOf_85 ?_
    refine gk_goto (pc := 86) 91 d_Da_firstOf_86 rfl ?_
    refine gk_weak [] (L' := []) rfl ?_
    exact p_Da_firstOf_b91 d (v5 + (1 : Int32)) h
theorem w_Da_firstOf (d : Nat) (a0 : Int32) (h : gk_H) : gk_P gw_I (d + 1) y_Da_firstOf b_Da_firstOf 6 (some .int) [] (f_Da_firstOf a0 h) 0 [(0, .int a0)] [] h := by
  unfold f_Da_firstOf
  refine gk_sipush (pc := 0) (1900 : Int32) d_Da_firstOf_0 rfl ?_
  refine gk_iload_n (pc := 3) 0 d_Da_firstOf_3 rfl ?_
  refine gk_bipush (pc := 4) (12 : Int32) d_Da_firstOf_4 rfl ?_
  refine gk_idiv (pc := 6) (by decide) d_Da_firstOf_6 ?_
  refine gk_iadd (pc := 7) d_Da_firstOf_7 ?_
  refine gk_topI (pc := 8) fun x1 => ?_
  refine gk_istore_n (pc := 8) (L' := [(1, .int x1), (0, .int a0)]) d_Da_firstOf_8 (Nat.le_of_ble_eq_true rfl) rfl ?_
  refine gk_iload_n (pc := 9) 1 d_Da_firstOf_9 rfl ?_
  refine gk_bipush (pc := 10) (12 : Int32) d_Da_firstOf_10 rfl ?_
  refine gk_callS (pc := 12) (d := d) (w' := gv_I) (as := [.int a0, .int (12 : Int32)]) (n := 2) d_Da_firstOf_12 rfl rfl (Nat.le_of_ble_eq_true rfl) tw_1519 tw_1520 tw_106 cw_Ma_floorMod hy_Ma_floorMod (Nat.le_of_ble_eq_true rfl) (p_Ma_floorMod d a0 (12 : Int32) h) fun x2 h1 => ?_
  refine gk_istore_n (pc := 15) (L' := [(2, .int x2), (1, .int x1), (0, .int a0)]) d_Da_firstOf_15 (Nat.le_of_ble_eq_true rfl) rfl ?_
  refine gk_iload_n (pc := 16) 1 d_Da_firstOf_16 rfl ?_
  refine gk_iconst (pc := 17) (1 : Int32) d_Da_firstOf_17 rfl ?_
  refine gk_isub (pc := 18) d_Da_firstOf_18 ?_
  refine gk_topI (pc := 19) fun x3 => ?_
  refine gk_istore_n (pc := 19) (L' := [(3, .int x3), (2, .int x2), (1, .int x1), (0, .int a0)]) d_Da_firstOf_19 (Nat.le_of_ble_eq_true rfl) rfl ?_
  refine gk_iload_n (pc := 20) 0 d_Da_firstOf_20 rfl ?_
  refine gk_iconst (pc := 21) (4 : Int32) d_Da_firstOf_21 rfl ?_
  refine gk_idiv (pc := 22) (by decide) d_Da_firstOf_22 ?_
  refine gk_iload_n (pc := 23) 0 d_Da_firstOf_23 rfl ?_
  refine gk_bipush (pc := 24) (100 : Int32) d_Da_firstOf_24 rfl ?_
  refine gk_idiv (pc := 26) (by decide) d_Da_firstOf_26 ?_
  refine gk_isub (pc := 27) d_Da_firstOf_27 ?_
  refine gk_iload_n (pc := 28) 0 d_Da_firstOf_28 rfl ?_
  refine gk_sipush (pc := 29) (400 : Int32) d_Da_firstOf_29 rfl ?_
  refine gk_idiv (pc := 32) (by decide) d_Da_firstOf_32 ?_
  refine gk_iadd (pc := 33) d_Da_firstOf_33 ?_
  refine gk_sipush (pc := 34) (460 : Int32) d_Da_firstOf_34 rfl ?_
  refine gk_isub (pc := 37) d_Da_firstOf_37 ?_
  refine gk_topI (pc := 38) fun x4 => ?_
  refine gk_istore (pc := 38) (L' := [(4, .int x4), (3, .int x3), (2, .int x2), (1, .int x1), (0, .int a0)]) d_Da_firstOf_38 (Nat.le_of_ble_eq_true rfl) rfl ?_
  refine gk_iconst (pc := 40) (1 : Int32) d_Da_firstOf_40 rfl ?_
  refine gk_sipush (pc := 41) (365 : Int32) d_Da_firstOf_41 rfl ?_
  refine gk_iload_n (pc := 44) 3 d_Da_firstOf_44 rfl ?_
  refine gk_sipush (pc := 45) (1900 : Int32) d_Da_firstOf_45 rfl ?_
  refine gk_isub (pc := 48) d_Da_firstOf_48 ?_
  refine gk_imul (pc := 49) d_Da_firstOf_49 ?_
  refine gk_iadd (pc := 50) d_Da_firstOf_50 ?_
  refine gk_iload (pc := 51) 0 d_Da_firstOf_51 rfl ?_
  refine gk_iadd (pc := 53) d_Da_firstOf_53 ?_
  refine gk_gsR (pc := 54) 4 d_Da_firstOf_54 rfl tw_1522 fun x5 => ?_
  refine gk_iload_n (pc := 57) 2 d_Da_firstOf_57 rfl ?_
  refine gk_iald (pc := 58) d_Da_firstOf_58 fun x6 => ?_
  refine gk_iadd (pc := 59) d_Da_firstOf_59 ?_
  refine gk_topI (pc := 60) fun x7 => ?_
  refine gk_istore (pc := 60) (L' := [(5, .int x7), (4, .int x4), (3, .int x3), (2, .int x2), (1, .int x1), (0, .int a0)]) d_Da_firstOf_60 (Nat.le_of_ble_eq_true rfl) rfl ?_
  refine gk_iload_n (pc := 62) 3 d_Da_firstOf_62 rfl ?_
  refine gk_iconst (pc := 63) (1 : Int32) d_Da_firstOf_63 rfl ?_
  refine gk_icmp_le (pc := 64) 77 d_Da_firstOf_64 rfl (fun _ => ?_) (fun _ => ?_)
  · refine gk_weak [5, 0] (L' := [(0, .int a0), (5, .int x7)]) rfl ?_
    exact p_Da_firstOf_b77 d a0 x7 h1
  · refine gk_iload_n (pc := 67) 4 d_Da_firstOf_67 rfl ?_
    refine gk_callS (pc := 68) (d := d) (w' := gv_I) (as := [.int x1]) (n := 1) d_Da_firstOf_68 rfl rfl (Nat.le_of_ble_eq_true rfl) tw_1524 tw_1525 tw_124 cw_Da_isLeap hy_Da_isLeap (Nat.le_of_ble_eq_true rfl) (p_Da_isLeap d x1 h1) fun x8 h2 => ?_
    refine gk_if_eq (pc := 71) 77 d_Da_firstOf_71 rfl (fun _ => ?_) (fun _ => ?_)
    · refine gk_weak [5, 0] (L' := [(0, .int a0), (5, .int x7)]) rfl ?_
      exact p_Da_firstOf_b77 d a0 x7 h2
    · refine gk_iincN (pc := 74) 0 (1 : Int32) (L' := fun x9 => [(5, .int x9), (4, .int x4), (3, .int x3), (2, .int x2), (1, .int x1), (0, .int a0)]) d_Da_firstOf_74 rfl rfl (Nat.le_of_ble_eq_true rfl) (fun _ => rfl) fun x9 => ?_
      refine gk_weak [5, 0] (L' := [(0, .int a0), (5, .int x9)]) rfl ?_
      exact p_Da_firstOf_b77 d a0 x9 h2
theorem p_Da_firstOf (d : Nat) (a0 : Int32) (h : gk_H) : ∀ r h1, f_Da_firstOf a0 h = some (r, h1) → gk_M (d + 1) y_Da_firstOf b_Da_firstOf 6 (some .int) [.int a0] h (.inl (gv_I r)) h1 :=
  fun r h1 e => gk_M_of2 (by decide +kernel) (by simp [lv_args, gk_cat_rf, gk_catI, gk_catJ, gk_catD, gv_V, gv_I, gv_J, gv_D, gv_R]) (by simp [lg_sl, gk_cat_rf, gk_catI, gk_catJ, gk_catD, gv_V, gv_I, gv_J, gv_D, gv_R]) (w_Da_firstOf d a0 h r h1 e)
theorem d_Da_monthOf_0 : decode b_Da_monthOf 0 = .ok (.iconst 0, 1) := by decide +kernel
theorem d_Da_monthOf_1 : decode b_Da_monthOf 1 = .ok (.istore_n 1, 1) := by decide +kernel
theorem d_Da_monthOf_2 : decode b_Da_monthOf 2 = .ok (.ldc 79, 2) := by decide +kernel
theorem d_Da_monthOf_4 : decode b_Da_monthOf 4 = .ok (.istore_n 2, 1) := by decide +kernel
theorem d_Da_monthOf_5 : decode b_Da_monthOf 5 = .ok (.iload_n 2, 1) := by decide +kernel
theorem d_Da_monthOf_6 : decode b_Da_monthOf 6 = .ok (.ifCond .le 24, 3) := by decide +kernel
theorem d_Da_monthOf_9 : decode b_Da_monthOf 9 = .ok (.iload_n 1, 1) := by decide +kernel
theorem d_Da_monthOf_10 : decode b_Da_monthOf 10 = .ok (.iload_n 2, 1) := by decide +kernel
theorem d_Da_monthOf_11 : decode b_Da_monthOf 11 = .ok (.iadd, 1) := by decide +kernel
theorem d_Da_monthOf_12 : decode b_Da_monthOf 12 = .ok (.invokestatic 80, 3) := by decide +kernel
theorem d_Da_monthOf_15 : decode b_Da_monthOf 15 = .ok (.iload_n 0, 1) := by decide +kernel
theorem d_Da_monthOf_16 : decode b_Da_monthOf 16 = .ok (.if_icmp .gt 7, 3) := by decide +kernel
theorem d_Da_monthOf_19 : decode b_Da_monthOf 19 = .ok (.iload_n 1, 1) := by decide +kernel
theorem d_Da_monthOf_20 : decode b_Da_monthOf 20 = .ok (.iload_n 2, 1) := by decide +kernel
theorem d_Da_monthOf_21 : decode b_Da_monthOf 21 = .ok (.iadd, 1) := by decide +kernel
theorem d_Da_monthOf_22 : decode b_Da_monthOf 22 = .ok (.istore_n 1, 1) := by decide +kernel
theorem d_Da_monthOf_23 : decode b_Da_monthOf 23 = .ok (.iload_n 2, 1) := by decide +kernel
theorem d_Da_monthOf_24 : decode b_Da_monthOf 24 = .ok (.iconst 2, 1) := by decide +kernel
theorem d_Da_monthOf_25 : decode b_Da_monthOf 25 = .ok (.idiv, 1) := by decide +kernel
theorem d_Da_monthOf_26 : decode b_Da_monthOf 26 = .ok (.istore_n 2, 1) := by decide +kernel
theorem d_Da_monthOf_27 : decode b_Da_monthOf 27 = .ok (.goto (-22), 3) := by decide +kernel
theorem d_Da_monthOf_30 : decode b_Da_monthOf 30 = .ok (.iload_n 1, 1) := by decide +kernel
theorem d_Da_monthOf_31 : decode b_Da_monthOf 31 = .ok (.ireturn, 1) := by decide +kernel
theorem p_Da_monthOf_b23 (d : Nat) (b5 : Int32 → Int32 → Int32 → gk_H → Option (Int32 × gk_H)) (q5 : ∀ (v0 : Int32) (v1 : Int32) (v2 : Int32) (h : gk_H), gk_P gw_I (d + 2) y_Da_monthOf b_Da_monthOf 3 (some .int) [] (b5 v0 v1 v2 h) 5 [(0, .int v0), (1, .int v1), (2, .int v2)] [] h) (v0 : Int32) (v1 : Int32) (v2 : Int32) (h : gk_H) : gk_P gw_I (d + 2) y_Da_monthOf b_Da_monthOf 3 (some .int) [] (f_Da_monthOf_b23 b5 v0 v1 v2 h) 23 [(0, .int v0), (1, .int v1), (2, .int v2)] [] h := by
  unfold f_Da_monthOf_b23
  refine gk_iload_n (pc := 23) 2 d_Da_monthOf_23 rfl ?_
  refine gk_iconst (pc := 24) (2 : Int32) d_Da_monthOf_24 rfl ?_
  refine gk_idiv (pc := 25) (by decide) d_Da_monthOf_25 ?_
  refine gk_topI (pc := 26) fun x1 => ?_
  refine gk_istore_n (pc := 26) (L' := [(2, .int x1), (0, .int v0), (1, .int v1)]) d_Da_monthOf_26 (Nat.le_of_ble_eq_true rfl) rfl ?_
  refine gk_goto (pc := 27) 5 d_Da_monthOf_27 rfl ?_
  refine gk_weak [1, 2, 0] (L' := [(0, .int v0), (1, .int v1), (2, .int x1)]) rfl ?_
  exact q5 v0 v1 x1 h
theorem p_Da_monthOf_b5 (d : Nat)  : ∀ (fu : Nat) (v0 : Int32) (v1 : Int32) (v2 : Int32) (h : gk_H), gk_P gw_I (d + 2) y_Da_monthOf b_Da_monthOf 3 (some .int) [] (f_Da_monthOf_b5  fu v0 v1 v2 h) 5 [(0, .int v0), (1, .int v1), (2, .int v2)] [] h := by
  intro fu
  induction fu with
  | zero => intros; exact gk_none
  | succ fu q5 =>
    intro v0 v1 v2 h
    rw [f_Da_monthOf_b5]
    refine gk_iload_n (pc := 5) 2 d_Da_monthOf_5 rfl ?_
    refine gk_if_le (pc := 6) 30 d_Da_monthOf_6 rfl (fun _ => ?_) (fun _ => ?_)
    · refine gk_iload_n (pc := 30) 1 d_Da_monthOf_30 rfl ?_
      exact gk_iret (pc := 31) rfl d_Da_monthOf_31 rfl
    · refine gk_iload_n (pc := 9) 1 d_Da_monthOf_9 rfl ?_
      refine gk_iload_n (pc := 10) 2 d_Da_monthOf_10 rfl ?_
      refine gk_iadd (pc := 11) d_Da_monthOf_11 ?_
      refine gk_callS (pc := 12) (d := (d + 1)) (w' := gv_I) (as := [.int (v1 + v2)]) (n := 1) d_Da_monthOf_12 rfl rfl (Nat.le_of_ble_eq_true rfl) tw_1516 tw_1517 tw_124 cw_Da_firstOf hy_Da_firstOf (Nat.le_of_ble_eq_true rfl) (p_Da_firstOf d (v1 + v2) h) fun x1 h1 => ?_
      refine gk_iload_n (pc := 15) 0 d_Da_monthOf_15 rfl ?_
      refine gk_icmp_gt (pc := 16) 23 d_Da_monthOf_16 rfl (fun _ => ?_) (fun _ => ?_)
      · exact p_Da_monthOf_b23 d (f_Da_monthOf_b5 fu) q5 v0 v1 v2 h1
      · refine gk_iload_n (pc := 19) 1 d_Da_monthOf_19 rfl ?_
        refine gk_iload_n (pc := 20) 2 d_Da_monthOf_20 rfl ?_
        refine gk_iadd (pc := 21) d_Da_monthOf_21 ?_
        refine gk_topI (pc := 22) fun x2 => ?_
        refine gk_istore_n (pc := 22) (L' := [(1, .int x2), (0, .int v0), (2, .int v2)]) d_Da_monthOf_22 (Nat.le_of_ble_eq_true rfl) rfl ?_
        refine gk_weak [1, 0, 2] (L' := [(0, .int v0), (1, .int x2), (2, .int v2)]) rfl ?_
        exact p_Da_monthOf_b23 d (f_Da_monthOf_b5 fu) q5 v0 x2 v2 h1
theorem w_Da_monthOf (d : Nat) (a0 : Int32) (h : gk_H) : gk_P gw_I (d + 2) y_Da_monthOf b_Da_monthOf 3 (some .int) [] (f_Da_monthOf a0 h) 0 [(0, .int a0)] [] h := by
  unfold f_Da_monthOf
  refine gk_iconst (pc := 0) (0 : Int32) d_Da_monthOf_0 rfl ?_
  refine gk_istore_n (pc := 1) (L' := [(1, .int (0 : Int32)), (0, .int a0)]) d_Da_monthOf_1 (Nat.le_of_ble_eq_true rfl) rfl ?_
  refine gk_ldc (pc := 2) tw_1543 d_Da_monthOf_2 ?_
  refine gk_istore_n (pc := 4) (L' := [(2, .int (65536 : Int32)), (1, .int (0 : Int32)), (0, .int a0)]) d_Da_monthOf_4 (Nat.le_of_ble_eq_true rfl) rfl ?_
  refine gk_weak [2, 1, 0] (L' := [(0, .int a0), (1, .int (0 : Int32)), (2, .int (65536 : Int32))]) rfl ?_
  exact p_Da_monthOf_b5 d gk_F a0 (0 : Int32) (65536 : Int32) h
theorem p_Da_monthOf (d : Nat) (a0 : Int32) (h : gk_H) : ∀ r h1, f_Da_monthOf a0 h = some (r, h1) → gk_M (d + 2) y_Da_monthOf b_Da_monthOf 3 (some .int) [.int a0] h (.inl (gv_I r)) h1 :=
  fun r h1 e => gk_M_of2 (by decide +kernel) (by simp [lv_args, gk_cat_rf, gk_catI, gk_catJ, gk_catD, gv_V, gv_I, gv_J, gv_D, gv_R]) (by simp [lg_sl, gk_cat_rf, gk_catI, gk_catJ, gk_catD, gv_V, gv_I, gv_J, gv_D, gv_R]) (w_Da_monthOf d a0 h r h1 e)
theorem d_Da_ofDay_0 : decode b_Da_ofDay 0 = .ok (.lload_n 0, 1) := by decide +kernel
theorem d_Da_ofDay_1 : decode b_Da_ofDay 1 = .ok (.lconst 0, 1) := by decide +kernel
theorem d_Da_ofDay_2 : decode b_Da_ofDay 2 = .ok (.lcmp, 1) := by decide +kernel
theorem d_Da_ofDay_3 : decode b_Da_ofDay 3 = .ok (.ifCond .lt 19, 3) := by decide +kernel
theorem d_Da_ofDay_6 : decode b_Da_ofDay 6 = .ok (.lload_n 0, 1) := by decide +kernel
theorem d_Da_ofDay_7 : decode b_Da_ofDay 7 = .ok (.ldc2_w 57, 3) := by decide +kernel
theorem d_Da_ofDay_10 : decode b_Da_ofDay 10 = .ok (.lcmp, 1) := by decide +kernel
theorem d_Da_ofDay_11 : decode b_Da_ofDay 11 = .ok (.ifCond .gt 11, 3) := by decide +kernel
theorem d_Da_ofDay_14 : decode b_Da_ofDay 14 = .ok (.lload_n 0, 1) := by decide +kernel
theorem d_Da_ofDay_15 : decode b_Da_ofDay 15 = .ok (.l2d, 1) := by decide +kernel
theorem d_Da_ofDay_16 : decode b_Da_ofDay 16 = .ok (.invokestatic 59, 3) := by decide +kernel
theorem d_Da_ofDay_19 : decode b_Da_ofDay 19 = .ok (.goto 8, 3) := by decide +kernel
theorem d_Da_ofDay_22 : decode b_Da_ofDay 22 = .ok (.bipush 6, 2) := by decide +kernel
theorem d_Da_ofDay_24 : decode b_Da_ofDay 24 = .ok (.invokestatic 49, 3) := by decide +kernel
theorem d_Da_ofDay_27 : decode b_Da_ofDay 27 = .ok (.areturn, 1) := by decide +kernel
theorem p_Da_ofDay_b27 (d : Nat)  (s0 : Option Nat) (h : gk_H) : gk_P gw_R (d + 3) y_Da_ofDay b_Da_ofDay 2 (some (.object "ValueAlgebra$Value")) [] (f_Da_ofDay_b27  s0 h) 27 [] [va_rf s0] h := by
  unfold f_Da_ofDay_b27
  exact gk_aret (pc := 27) rfl d_Da_ofDay_27 rfl (Or.inl ⟨_, rfl⟩)
theorem p_Da_ofDay_b22 (d : Nat)   (h : gk_H) : gk_P gw_R (d + 3) y_Da_ofDay b_Da_ofDay 2 (some (.object "ValueAlgebra$Value")) [] (f_Da_ofDay_b22   h) 22 [] [] h := by
  unfold f_Da_ofDay_b22
  refine gk_bipush (pc := 22) (6 : Int32) d_Da_ofDay_22 rfl ?_
  refine gk_callS (pc := 24) (d := (d + 2)) (w' := gv_R) (as := [.int (6 : Int32)]) (n := 1) d_Da_ofDay_24 rfl rfl (Nat.le_of_ble_eq_true rfl) tw_1513 tw_236 tw_97 cw_Va_ofError hy_Va_ofError (Nat.le_of_ble_eq_true rfl) (p_Va_ofError d (6 : Int32) h) fun x1 h1 => ?_
  exact p_Da_ofDay_b27 d x1 h1
theorem w_Da_ofDay (d : Nat) (a0 : Int64) (h : gk_H) : gk_P gw_R (d + 3) y_Da_ofDay b_Da_ofDay 2 (some (.object "ValueAlgebra$Value")) [] (f_Da_ofDay a0 h) 0 [(0, .long a0)] [] h := by
  unfold f_Da_ofDay
  refine gk_lload_n (pc := 0) 0 d_Da_ofDay_0 rfl ?_
  refine gk_lconst (pc := 1) (0 : Int64) d_Da_ofDay_1 rfl ?_
  refine gk_lcmp (pc := 2) d_Da_ofDay_2 ?_
  refine gk_if_lt (pc := 3) 22 d_Da_ofDay_3 rfl (fun _ => ?_) (fun _ => ?_)
  · refine gk_weak [] (L' := []) rfl ?_
    exact p_Da_ofDay_b22 d h
  · refine gk_lload_n (pc := 6) 0 d_Da_ofDay_6 rfl ?_
    refine gk_ldc2 (pc := 7) tw_1530 d_Da_ofDay_7 ?_
    refine gk_lcmp (pc := 10) d_Da_ofDay_10 ?_
    refine gk_if_gt (pc := 11) 22 d_Da_ofDay_11 rfl (fun _ => ?_) (fun _ => ?_)
    · refine gk_weak [] (L' := []) rfl ?_
      exact p_Da_ofDay_b22 d h
    · refine gk_lload_n (pc := 14) 0 d_Da_ofDay_14 rfl ?_
      refine gk_l2d (pc := 15) d_Da_ofDay_15 ?_
      refine gk_callS (pc := 16) (d := (d + 2)) (w' := gv_R) (as := [.double (FP.l2d a0)]) (n := 1) d_Da_ofDay_16 rfl rfl (Nat.le_of_ble_eq_true rfl) tw_1531 tw_317 tw_97 cw_Va_ofNumber hy_Va_ofNumber (Nat.le_of_ble_eq_true rfl) (p_Va_ofNumber d (FP.l2d a0) h) fun x1 h1 => ?_
      refine gk_goto (pc := 19) 27 d_Da_ofDay_19 rfl ?_
      refine gk_weak [] (L' := []) rfl ?_
      exact p_Da_ofDay_b27 d x1 h1
theorem p_Da_ofDay (d : Nat) (a0 : Int64) (h : gk_H) : ∀ r h1, f_Da_ofDay a0 h = some (r, h1) → gk_M (d + 3) y_Da_ofDay b_Da_ofDay 2 (some (.object "ValueAlgebra$Value")) [.long a0] h (.inl (gv_R r)) h1 :=
  fun r h1 e => gk_M_of2 (by decide +kernel) (by simp [lv_args, gk_cat_rf, gk_catI, gk_catJ, gk_catD, gv_V, gv_I, gv_J, gv_D, gv_R]) (by simp [lg_sl, gk_cat_rf, gk_catI, gk_catJ, gk_catD, gv_V, gv_I, gv_J, gv_D, gv_R]) (w_Da_ofDay d a0 h r h1 e)
theorem d_Da_monthsOn_0 : decode b_Da_monthsOn 0 = .ok (.dload_n 1, 1) := by decide +kernel
theorem d_Da_monthsOn_1 : decode b_Da_monthsOn 1 = .ok (.invokestatic 96, 3) := by decide +kernel
theorem d_Da_monthsOn_4 : decode b_Da_monthsOn 4 = .ok (.istore 5, 2) := by decide +kernel
theorem d_Da_monthsOn_6 : decode b_Da_monthsOn 6 = .ok (.iload 5, 2) := by decide +kernel
theorem d_Da_monthsOn_8 : decode b_Da_monthsOn 8 = .ok (.iconst (-1), 1) := by decide +kernel
theorem d_Da_monthsOn_9 : decode b_Da_monthsOn 9 = .ok (.if_icmp .eq 10, 3) := by decide +kernel
theorem d_Da_monthsOn_12 : decode b_Da_monthsOn 12 = .ok (.lload_n 3, 1) := by decide +kernel
theorem d_Da_monthsOn_13 : decode b_Da_monthsOn 13 = .ok (.invokestatic 84, 3) := by decide +kernel
theorem d_Da_monthsOn_16 : decode b_Da_monthsOn 16 = .ok (.ifCond .ne 9, 3) := by decide +kernel
theorem d_Da_monthsOn_19 : decode b_Da_monthsOn 19 = .ok (.bipush 6, 2) := by decide +kernel
theorem d_Da_monthsOn_21 : decode b_Da_monthsOn 21 = .ok (.invokestatic 49, 3) := by decide +kernel
theorem d_Da_monthsOn_24 : decode b_Da_monthsOn 24 = .ok (.areturn, 1) := by decide +kernel
theorem d_Da_monthsOn_25 : decode b_Da_monthsOn 25 = .ok (.iload 5, 2) := by decide +kernel
theorem d_Da_monthsOn_27 : decode b_Da_monthsOn 27 = .ok (.invokestatic 100, 3) := by decide +kernel
theorem d_Da_monthsOn_30 : decode b_Da_monthsOn 30 = .ok (.istore 6, 2) := by decide +kernel
theorem d_Da_monthsOn_32 : decode b_Da_monthsOn 32 = .ok (.iload 6, 2) := by decide +kernel
theorem d_Da_monthsOn_34 : decode b_Da_monthsOn 34 = .ok (.lload_n 3, 1) := by decide +kernel
theorem d_Da_monthsOn_35 : decode b_Da_monthsOn 35 = .ok (.l2i, 1) := by decide +kernel
theorem d_Da_monthsOn_36 : decode b_Da_monthsOn 36 = .ok (.iadd, 1) := by decide +kernel
theorem d_Da_monthsOn_37 : decode b_Da_monthsOn 37 = .ok (.istore 7, 2) := by decide +kernel
theorem d_Da_monthsOn_39 : decode b_Da_monthsOn 39 = .ok (.iload 7, 2) := by decide +kernel
theorem d_Da_monthsOn_41 : decode b_Da_monthsOn 41 = .ok (.ifCond .ge 9, 3) := by decide +kernel
theorem d_Da_monthsOn_44 : decode b_Da_monthsOn 44 = .ok (.bipush 6, 2) := by decide +kernel
theorem d_Da_monthsOn_46 : decode b_Da_monthsOn 46 = .ok (.invokestatic 49, 3) := by decide +kernel
theorem d_Da_monthsOn_49 : decode b_Da_monthsOn 49 = .ok (.areturn, 1) := by decide +kernel
theorem d_Da_monthsOn_50 : decode b_Da_monthsOn 50 = .ok (.iload 7, 2) := by decide +kernel
theorem d_Da_monthsOn_52 : decode b_Da_monthsOn 52 = .ok (.invokestatic 80, 3) := by decide +kernel
theorem d_Da_monthsOn_55 : decode b_Da_monthsOn 55 = .ok (.istore 8, 2) := by decide +kernel
theorem d_Da_monthsOn_57 : decode b_Da_monthsOn 57 = .ok (.iload 7, 2) := by decide +kernel
theorem d_Da_monthsOn_59 : decode b_Da_monthsOn 59 = .ok (.iconst 1, 1) := by decide +kernel
theorem d_Da_monthsOn_60 : decode b_Da_monthsOn 60 = .ok (.iadd, 1) := by decide +kernel
theorem d_Da_monthsOn_61 : decode b_Da_monthsOn 61 = .ok (.invokestatic 80, 3) := by decide +kernel
theorem d_Da_monthsOn_64 : decode b_Da_monthsOn 64 = .ok (.iconst 1, 1) := by decide +kernel
theorem d_Da_monthsOn_65 : decode b_Da_monthsOn 65 = .ok (.isub, 1) := by decide +kernel
theorem d_Da_monthsOn_66 : decode b_Da_monthsOn 66 = .ok (.istore 9, 2) := by decide +kernel
theorem d_Da_monthsOn_68 : decode b_Da_monthsOn 68 = .ok (.iload_n 0, 1) := by decide +kernel
theorem d_Da_monthsOn_69 : decode b_Da_monthsOn 69 = .ok (.bipush 87, 2) := by decide +kernel
theorem d_Da_monthsOn_71 : decode b_Da_monthsOn 71 = .ok (.if_icmp .ne 9, 3) := by decide +kernel
theorem d_Da_monthsOn_74 : decode b_Da_monthsOn 74 = .ok (.iload 9, 2) := by decide +kernel
theorem d_Da_monthsOn_76 : decode b_Da_monthsOn 76 = .ok (.i2l, 1) := by decide +kernel
theorem d_Da_monthsOn_77 : decode b_Da_monthsOn 77 = .ok (.goto 20, 3) := by decide +kernel
theorem d_Da_monthsOn_80 : decode b_Da_monthsOn 80 = .ok (.iload 8, 2) := by decide +kernel
theorem d_Da_monthsOn_82 : decode b_Da_monthsOn 82 = .ok (.iload 5, 2) := by decide +kernel
theorem d_Da_monthsOn_84 : decode b_Da_monthsOn 84 = .ok (.iadd, 1) := by decide +kernel
theorem d_Da_monthsOn_85 : decode b_Da_monthsOn 85 = .ok (.iload 6, 2) := by decide +kernel
theorem d_Da_monthsOn_87 : decode b_Da_monthsOn 87 = .ok (.invokestatic 80, 3) := by decide +kernel
theorem d_Da_monthsOn_90 : decode b_Da_monthsOn 90 = .ok (.isub, 1) := by decide +kernel
theorem d_Da_monthsOn_91 : decode b_Da_monthsOn 91 = .ok (.iload 9, 2) := by decide +kernel
theorem d_Da_monthsOn_93 : decode b_Da_monthsOn 93 = .ok (.invokestatic 107, 3) := by decide +kernel
theorem d_Da_monthsOn_96 : decode b_Da_monthsOn 96 = .ok (.i2l, 1) := by decide +kernel
theorem d_Da_monthsOn_97 : decode b_Da_monthsOn 97 = .ok (.invokestatic 92, 3) := by decide +kernel
theorem d_Da_monthsOn_100 : decode b_Da_monthsOn 100 = .ok (.areturn, 1) := by decide +kernel
theorem p_Da_monthsOn_b19 (d : Nat)   (h : gk_H) : gk_P gw_R (d + 4) y_Da_monthsOn b_Da_monthsOn 10 (some (.object "ValueAlgebra$Value")) [] (f_Da_monthsOn_b19   h) 19 [] [] h := by
  unfold f_Da_monthsOn_b19
  refine gk_bipush (pc := 19) (6 : Int32) d_Da_monthsOn_19 rfl ?_
  refine gk_callS (pc := 21) (d := (d + 3)) (w' := gv_R) (as := [.int (6 : Int32)]) (n := 1) d_Da_monthsOn_21 rfl rfl (Nat.le_of_ble_eq_true rfl) tw_1513 tw_236 tw_97 cw_Va_ofError hy_Va_ofError (Nat.le_of_ble_eq_true rfl) (p_Va_ofError (d + 1) (6 : Int32) h) fun x1 h1 => ?_
  exact gk_aret (pc := 24) rfl d_Da_monthsOn_24 rfl (Or.inl ⟨_, rfl⟩)
theorem p_Da_monthsOn_b97 (d : Nat)  (s0 : Int64) (h : gk_H) : gk_P gw_R (d + 4) y_Da_monthsOn b_Da_monthsOn 10 (some (.object "ValueAlgebra$Value")) [] (f_Da_monthsOn_b97  s0 h) 97 [] [.long s0] h := by
  unfold f_Da_monthsOn_b97
  refine gk_callS (pc := 97) (d := (d + 3)) (w' := gv_R) (as := [.long s0]) (n := 1) d_Da_monthsOn_97 rfl rfl (Nat.le_of_ble_eq_true rfl) tw_1527 tw_1528 tw_124 cw_Da_ofDay hy_Da_ofDay (Nat.le_of_ble_eq_true rfl) (p_Da_ofDay d s0 h) fun x1 h1 => ?_
  exact gk_aret (pc := 100) rfl d_Da_monthsOn_100 rfl (Or.inl ⟨_, rfl⟩)
theorem w_Da_monthsOn (d : Nat) (a0 : Int32) (a1 : UInt64) (a2 : Int64) (h : gk_H) : gk_P gw_R (d + 4) y_Da_monthsOn b_Da_monthsOn 10 (some (.object "ValueAlgebra$Value")) [] (f_Da_monthsOn a0 a1 a2 h) 0 [(0, .int a0), (1, .double a1), (3, .long a2)] [] h := by
  unfold f_Da_monthsOn
  refine gk_dload_n (pc := 0) 1 d_Da_monthsOn_0 rfl ?_
  refine gk_callS (pc := 1) (d := (d + 3)) (w' := gv_I) (as := [.double a1]) (n := 1) d_Da_monthsOn_1 rfl rfl (Nat.le_of_ble_eq_true rfl) tw_1536 tw_1537 tw_124 cw_Da_dayOf hy_Da_dayOf (Nat.le_of_ble_eq_true rfl) (p_Da_dayOf (d + 3) a1 h) fun x1 h1 => ?_
  refine gk_istore (pc := 4) (L' := [(5, .int x1), (0, .int a0), (1, .double a1), (3, .long a2)]) d_Da_monthsOn_4 (Nat.le_of_ble_eq_true rfl) rfl ?_
  refine gk_iload (pc := 6) 0 d_Da_monthsOn_6 rfl ?_
  refine gk_iconst (pc := 8) (-1 : Int32) d_Da_monthsOn_8 rfl ?_
  refine gk_icmp_eq (pc := 9) 19 d_Da_monthsOn_9 rfl (fun _ => ?_) (fun _ => ?_)
  · refine gk_weak [] (L' := []) rfl ?_
    exact p_Da_monthsOn_b19 d h1
  · refine gk_lload_n (pc := 12) 3 d_Da_monthsOn_12 rfl ?_
    refine gk_callS (pc := 13) (d := (d + 3)) (w' := gv_I) (as := [.long a2]) (n := 1) d_Da_monthsOn_13 rfl rfl (Nat.le_of_ble_eq_true rfl) tw_1508 tw_1509 tw_124 cw_Da_isShort hy_Da_isShort (Nat.le_of_ble_eq_true rfl) (p_Da_isShort (d + 3) a2 h1) fun x2 h2 => ?_
    refine gk_if_ne (pc := 16) 25 d_Da_monthsOn_16 rfl (fun _ => ?_) (fun _ => ?_)
    · refine gk_weak [] (L' := []) rfl ?_
      exact p_Da_monthsOn_b19 d h2
    · refine gk_iload (pc := 25) 0 d_Da_monthsOn_25 rfl ?_
      refine gk_callS (pc := 27) (d := (d + 3)) (w' := gv_I) (as := [.int x1]) (n := 1) d_Da_monthsOn_27 rfl rfl (Nat.le_of_ble_eq_true rfl) tw_1540 tw_1541 tw_124 cw_Da_monthOf hy_Da_monthOf (Nat.le_of_ble_eq_true rfl) (p_Da_monthOf (d + 1) x1 h2) fun x3 h3 => ?_
      refine gk_istore (pc := 30) (L' := [(6, .int x3), (5, .int x1), (0, .int a0), (1, .double a1), (3, .long a2)]) d_Da_monthsOn_30 (Nat.le_of_ble_eq_true rfl) rfl ?_
      refine gk_iload (pc := 32) 0 d_Da_monthsOn_32 rfl ?_
      refine gk_lload_n (pc := 34) 4 d_Da_monthsOn_34 rfl ?_
      refine gk_l2i (pc := 35) d_Da_monthsOn_35 ?_
      refine gk_iadd (pc := 36) d_Da_monthsOn_36 ?_
      refine gk_topI (pc := 37) fun x4 => ?_
      refine gk_istore (pc := 37) (L' := [(7, .int x4), (6, .int x3), (5, .int x1), (0, .int a0), (1, .double a1), (3, .long a2)]) d_Da_monthsOn_37 (Nat.le_of_ble_eq_true rfl) rfl ?_
      refine gk_iload (pc := 39) 0 d_Da_monthsOn_39 rfl ?_
      refine gk_if_ge (pc := 41) 50 d_Da_monthsOn_41 rfl (fun _ => ?_) (fun _ => ?_)
      · refine gk_iload (pc := 50) 0 d_Da_monthsOn_50 rfl ?_
        refine gk_callS (pc := 52) (d := (d + 3)) (w' := gv_I) (as := [.int x4]) (n := 1) d_Da_monthsOn_52 rfl rfl (Nat.le_of_ble_eq_true rfl) tw_1516 tw_1517 tw_124 cw_Da_firstOf hy_Da_firstOf (Nat.le_of_ble_eq_true rfl) (p_Da_firstOf (d + 2) x4 h3) fun x5 h4 => ?_
        refine gk_istore (pc := 55) (L' := [(8, .int x5), (7, .int x4), (6, .int x3), (5, .int x1), (0, .int a0), (1, .double a1), (3, .long a2)]) d_Da_monthsOn_55 (Nat.le_of_ble_eq_true rfl) rfl ?_
        refine gk_iload (pc := 57) 1 d_Da_monthsOn_57 rfl ?_
        refine gk_iconst (pc := 59) (1 : Int32) d_Da_monthsOn_59 rfl ?_
        refine gk_iadd (pc := 60) d_Da_monthsOn_60 ?_
        refine gk_callS (pc := 61) (d := (d + 3)) (w' := gv_I) (as := [.int (x4 + (1 : Int32))]) (n := 1) d_Da_monthsOn_61 rfl rfl (Nat.le_of_ble_eq_true rfl) tw_1516 tw_1517 tw_124 cw_Da_firstOf hy_Da_firstOf (Nat.le_of_ble_eq_true rfl) (p_Da_firstOf (d + 2) (x4 + (1 : Int32)) h4) fun x6 h5 => ?_
        refine gk_iconst (pc := 64) (1 : Int32) d_Da_monthsOn_64 rfl ?_
        refine gk_isub (pc := 65) d_Da_monthsOn_65 ?_
        refine gk_topI (pc := 66) fun x7 => ?_
        refine gk_istore (pc := 66) (L' := [(9, .int x7), (8, .int x5), (7, .int x4), (6, .int x3), (5, .int x1), (0, .int a0), (1, .double a1), (3, .long a2)]) d_Da_monthsOn_66 (Nat.le_of_ble_eq_true rfl) rfl ?_
        refine gk_iload_n (pc := 68) 5 d_Da_monthsOn_68 rfl ?_
        refine gk_bipush (pc := 69) (87 : Int32) d_Da_monthsOn_69 rfl ?_
        refine gk_icmp_ne (pc := 71) 80 d_Da_monthsOn_71 rfl (fun _ => ?_) (fun _ => ?_)
        · refine gk_iload (pc := 74) 0 d_Da_monthsOn_74 rfl ?_
          refine gk_i2l (pc := 76) d_Da_monthsOn_76 ?_
          refine gk_goto (pc := 77) 97 d_Da_monthsOn_77 rfl ?_
          refine gk_weak [] (L' := []) rfl ?_
          exact p_Da_monthsOn_b97 d (Int32.toInt64 x7) h5
        · refine gk_iload (pc := 80) 1 d_Da_monthsOn_80 rfl ?_
          refine gk_iload (pc := 82) 4 d_Da_monthsOn_82 rfl ?_
          refine gk_iadd (pc := 84) d_Da_monthsOn_84 ?_
          refine gk_iload (pc := 85) 3 d_Da_monthsOn_85 rfl ?_
          refine gk_callS (pc := 87) (d := (d + 3)) (w' := gv_I) (as := [.int x3]) (n := 1) d_Da_monthsOn_87 rfl rfl (Nat.le_of_ble_eq_true rfl) tw_1516 tw_1517 tw_124 cw_Da_firstOf hy_Da_firstOf (Nat.le_of_ble_eq_true rfl) (p_Da_firstOf (d + 2) x3 h5) fun x8 h6 => ?_
          refine gk_isub (pc := 90) d_Da_monthsOn_90 ?_
          refine gk_iload (pc := 91) 0 d_Da_monthsOn_91 rfl ?_
          refine gk_callS (pc := 93) (d := (d + 3)) (w' := gv_I) (as := [.int ((x5 + x1) - x8), .int x7]) (n := 2) d_Da_monthsOn_93 rfl rfl (Nat.le_of_ble_eq_true rfl) tw_1553 tw_466 tw_106 cw_Ma_min_II hy_Ma_min_II (Nat.le_of_ble_eq_true rfl) (p_Ma_min_II (d + 3) ((x5 + x1) - x8) x7 h6) fun x9 h7 => ?_
          refine gk_i2l (pc := 96) d_Da_monthsOn_96 ?_
          refine gk_weak [] (L' := []) rfl ?_
          exact p_Da_monthsOn_b97 d (Int32.toInt64 x9) h7
      · refine gk_bipush (pc := 44) (6 : Int32) d_Da_monthsOn_44 rfl ?_
        refine gk_callS (pc := 46) (d := (d + 3)) (w' := gv_R) (as := [.int (6 : Int32)]) (n := 1) d_Da_monthsOn_46 rfl rfl (Nat.le_of_ble_eq_true rfl) tw_1513 tw_236 tw_97 cw_Va_ofError hy_Va_ofError (Nat.le_of_ble_eq_true rfl) (p_Va_ofError (d + 1) (6 : Int32) h3) fun x10 h8 => ?_
        exact gk_aret (pc := 49) rfl d_Da_monthsOn_49 rfl (Or.inl ⟨_, rfl⟩)
theorem p_Da_monthsOn (d : Nat) (a0 : Int32) (a1 : UInt64) (a2 : Int64) (h : gk_H) : ∀ r h1, f_Da_monthsOn a0 a1 a2 h = some (r, h1) → gk_M (d + 4) y_Da_monthsOn b_Da_monthsOn 10 (some (.object "ValueAlgebra$Value")) [.int a0, .double a1, .long a2] h (.inl (gv_R r)) h1 :=
  fun r h1 e => gk_M_of2 (by decide +kernel) (by simp [lv_args, gk_cat_rf, gk_catI, gk_catJ, gk_catD, gv_V, gv_I, gv_J, gv_D, gv_R]) (by simp [lg_sl, gk_cat_rf, gk_catI, gk_catJ, gk_catD, gv_V, gv_I, gv_J, gv_D, gv_R]) (w_Da_monthsOn d a0 a1 a2 h r h1 e)
theorem d_Da_weekday_0 : decode b_Da_weekday 0 = .ok (.dload_n 0, 1) := by decide +kernel
theorem d_Da_weekday_1 : decode b_Da_weekday 1 = .ok (.invokestatic 96, 3) := by decide +kernel
theorem d_Da_weekday_4 : decode b_Da_weekday 4 = .ok (.istore 4, 2) := by decide +kernel
theorem d_Da_weekday_6 : decode b_Da_weekday 6 = .ok (.iload 4, 2) := by decide +kernel
theorem d_Da_weekday_8 : decode b_Da_weekday 8 = .ok (.iconst (-1), 1) := by decide +kernel
theorem d_Da_weekday_9 : decode b_Da_weekday 9 = .ok (.if_icmp .eq 17, 3) := by decide +kernel
theorem d_Da_weekday_12 : decode b_Da_weekday 12 = .ok (.lload_n 2, 1) := by decide +kernel
theorem d_Da_weekday_13 : decode b_Da_weekday 13 = .ok (.lconst 1, 1) := by decide +kernel
theorem d_Da_weekday_14 : decode b_Da_weekday 14 = .ok (.lcmp, 1) := by decide +kernel
theorem d_Da_weekday_15 : decode b_Da_weekday 15 = .ok (.ifCond .lt 11, 3) := by decide +kernel
theorem d_Da_weekday_18 : decode b_Da_weekday 18 = .ok (.lload_n 2, 1) := by decide +kernel
theorem d_Da_weekday_19 : decode b_Da_weekday 19 = .ok (.ldc2_w 103, 3) := by decide +kernel
theorem d_Da_weekday_22 : decode b_Da_weekday 22 = .ok (.lcmp, 1) := by decide +kernel
theorem d_Da_weekday_23 : decode b_Da_weekday 23 = .ok (.ifCond .le 9, 3) := by decide +kernel
theorem d_Da_weekday_26 : decode b_Da_weekday 26 = .ok (.bipush 6, 2) := by decide +kernel
theorem d_Da_weekday_28 : decode b_Da_weekday 28 = .ok (.invokestatic 49, 3) := by decide +kernel
theorem d_Da_weekday_31 : decode b_Da_weekday 31 = .ok (.areturn, 1) := by decide +kernel
theorem d_Da_weekday_32 : decode b_Da_weekday 32 = .ok (.lload_n 2, 1) := by decide +kernel
theorem d_Da_weekday_33 : decode b_Da_weekday 33 = .ok (.lconst 1, 1) := by decide +kernel
theorem d_Da_weekday_34 : decode b_Da_weekday 34 = .ok (.lcmp, 1) := by decide +kernel
theorem d_Da_weekday_35 : decode b_Da_weekday 35 = .ok (.ifCond .ne 19, 3) := by decide +kernel
theorem d_Da_weekday_38 : decode b_Da_weekday 38 = .ok (.iload 4, 2) := by decide +kernel
theorem d_Da_weekday_40 : decode b_Da_weekday 40 = .ok (.iconst 1, 1) := by decide +kernel
theorem d_Da_weekday_41 : decode b_Da_weekday 41 = .ok (.isub, 1) := by decide +kernel
theorem d_Da_weekday_42 : decode b_Da_weekday 42 = .ok (.bipush 7, 2) := by decide +kernel
theorem d_Da_weekday_44 : decode b_Da_weekday 44 = .ok (.invokestatic 65, 3) := by decide +kernel
theorem d_Da_weekday_47 : decode b_Da_weekday 47 = .ok (.iconst 1, 1) := by decide +kernel
theorem d_Da_weekday_48 : decode b_Da_weekday 48 = .ok (.iadd, 1) := by decide +kernel
theorem d_Da_weekday_49 : decode b_Da_weekday 49 = .ok (.i2d, 1) := by decide +kernel
theorem d_Da_weekday_50 : decode b_Da_weekday 50 = .ok (.invokestatic 59, 3) := by decide +kernel
theorem d_Da_weekday_53 : decode b_Da_weekday 53 = .ok (.areturn, 1) := by decide +kernel
theorem d_Da_weekday_54 : decode b_Da_weekday 54 = .ok (.iload 4, 2) := by decide +kernel
theorem d_Da_weekday_56 : decode b_Da_weekday 56 = .ok (.iconst 2, 1) := by decide +kernel
theorem d_Da_weekday_57 : decode b_Da_weekday 57 = .ok (.isub, 1) := by decide +kernel
theorem d_Da_weekday_58 : decode b_Da_weekday 58 = .ok (.bipush 7, 2) := by decide +kernel
theorem d_Da_weekday_60 : decode b_Da_weekday 60 = .ok (.invokestatic 65, 3) := by decide +kernel
theorem d_Da_weekday_63 : decode b_Da_weekday 63 = .ok (.lload_n 2, 1) := by decide +kernel
theorem d_Da_weekday_64 : decode b_Da_weekday 64 = .ok (.ldc2_w 105, 3) := by decide +kernel
theorem d_Da_weekday_67 : decode b_Da_weekday 67 = .ok (.lcmp, 1) := by decide +kernel
theorem d_Da_weekday_68 : decode b_Da_weekday 68 = .ok (.ifCond .ne 7, 3) := by decide +kernel
theorem d_Da_weekday_71 : decode b_Da_weekday 71 = .ok (.iconst 1, 1) := by decide +kernel
theorem d_Da_weekday_72 : decode b_Da_weekday 72 = .ok (.goto 4, 3) := by decide +kernel
theorem d_Da_weekday_75 : decode b_Da_weekday 75 = .ok (.iconst 0, 1) := by decide +kernel
theorem d_Da_weekday_76 : decode b_Da_weekday 76 = .ok (.iadd, 1) := by decide +kernel
theorem d_Da_weekday_77 : decode b_Da_weekday 77 = .ok (.i2d, 1) := by decide +kernel
theorem d_Da_weekday_78 : decode b_Da_weekday 78 = .ok (.invokestatic 59, 3) := by decide +kernel
theorem d_Da_weekday_81 : decode b_Da_weekday 81 = .ok (.areturn, 1) := by decide +kernel
theorem p_Da_weekday_b26 (d : Nat)   (h : gk_H) : gk_P gw_R (d + 3) y_Da_weekday b_Da_weekday 5 (some (.object "ValueAlgebra$Value")) [] (f_Da_weekday_b26   h) 26 [] [] h := by
  unfold f_Da_weekday_b26
  refine gk_bipush (pc := 26) (6 : Int32) d_Da_weekday_26 rfl ?_
  refine gk_callS (pc := 28) (d := (d + 2)) (w' := gv_R) (as := [.int (6 : Int32)]) (n := 1) d_Da_weekday_28 rfl rfl (Nat.le_of_ble_eq_true rfl) tw_1513 tw_236 tw_97 cw_Va_ofError hy_Va_ofError (Nat.le_of_ble_eq_true rfl) (p_Va_ofError d (6 : Int32) h) fun x1 h1 => ?_
  exact gk_aret (pc := 31) rfl d_Da_weekday_31 rfl (Or.inl ⟨_, rfl⟩)
theorem p_Da_weekday_b76 (d : Nat)  (s0 : Int32) (s1 : Int32) (h : gk_H) : gk_P gw_R (d + 3) y_Da_weekday b_Da_weekday 5 (some (.object "ValueAlgebra$Value")) [] (f_Da_weekday_b76  s0 s1 h) 76 [] [.int s1, .int s0] h := by
  unfold f_Da_weekday_b76
  refine gk_iadd (pc := 76) d_Da_weekday_76 ?_
  refine gk_i2d (pc := 77) d_Da_weekday_77 ?_
  refine gk_callS (pc := 78) (d := (d + 2)) (w' := gv_R) (as := [.double (FP.i2d (s0 + s1))]) (n := 1) d_Da_weekday_78 rfl rfl (Nat.le_of_ble_eq_true rfl) tw_1531 tw_317 tw_97 cw_Va_ofNumber hy_Va_ofNumber (Nat.le_of_ble_eq_true rfl) (p_Va_ofNumber d (FP.i2d (s0 + s1)) h) fun x1 h1 => ?_
  exact gk_aret (pc := 81) rfl d_Da_weekday_81 rfl (Or.inl ⟨_, rfl⟩)
theorem w_Da_weekday (d : Nat) (a0 : UInt64) (a1 : Int64) (h : gk_H) : gk_P gw_R (d + 3) y_Da_weekday b_Da_weekday 5 (some (.object "ValueAlgebra$Value")) [] (f_Da_weekday a0 a1 h) 0 [(0, .double a0), (2, .long a1)] [] h := by
  unfold f_Da_weekday
  refine gk_dload_n (pc := 0) 0 d_Da_weekday_0 rfl ?_
  refine gk_callS (pc := 1) (d := (d + 2)) (w' := gv_I) (as := [.double a0]) (n := 1) d_Da_weekday_1 rfl rfl (Nat.le_of_ble_eq_true rfl) tw_1536 tw_1537 tw_124 cw_Da_dayOf hy_Da_dayOf (Nat.le_of_ble_eq_true rfl) (p_Da_dayOf (d + 2) a0 h) fun x1 h1 => ?_
  refine gk_istore (pc := 4) (L' := [(4, .int x1), (0, .double a0), (2, .long a1)]) d_Da_weekday_4 (Nat.le_of_ble_eq_true rfl) rfl ?_
  refine gk_iload (pc := 6) 0 d_Da_weekday_6 rfl ?_
  refine gk_iconst (pc := 8) (-1 : Int32) d_Da_weekday_8 rfl ?_
  refine gk_icmp_eq (pc := 9) 26 d_Da_weekday_9 rfl (fun _ => ?_) (fun _ => ?_)
  · refine gk_weak [] (L' := []) rfl ?_
    exact p_Da_weekday_b26 d h1
  · refine gk_lload_n (pc := 12) 2 d_Da_weekday_12 rfl ?_
    refine gk_lconst (pc := 13) (1 : Int64) d_Da_weekday_13 rfl ?_
    refine gk_lcmp (pc := 14) d_Da_weekday_14 ?_
    refine gk_if_lt (pc := 15) 26 d_Da_weekday_15 rfl (fun _ => ?_) (fun _ => ?_)
    · refine gk_weak [] (L' := []) rfl ?_
      exact p_Da_weekday_b26 d h1
    · refine gk_lload_n (pc := 18) 2 d_Da_weekday_18 rfl ?_
      refine gk_ldc2 (pc := 19) tw_1548 d_Da_weekday_19 ?_
      refine gk_lcmp (pc := 22) d_Da_weekday_22 ?_
      refine gk_if_le (pc := 23) 32 d_Da_weekday_23 rfl (fun _ => ?_) (fun _ => ?_)
      · refine gk_lload_n (pc := 32) 2 d_Da_weekday_32 rfl ?_
        refine gk_lconst (pc := 33) (1 : Int64) d_Da_weekday_33 rfl ?_
        refine gk_lcmp (pc := 34) d_Da_weekday_34 ?_
        refine gk_if_ne (pc := 35) 54 d_Da_weekday_35 rfl (fun _ => ?_) (fun _ => ?_)
        · refine gk_iload (pc := 38) 0 d_Da_weekday_38 rfl ?_
          refine gk_iconst (pc := 40) (1 : Int32) d_Da_weekday_40 rfl ?_
          refine gk_isub (pc := 41) d_Da_weekday_41 ?_
          refine gk_bipush (pc := 42) (7 : Int32) d_Da_weekday_42 rfl ?_
          refine gk_callS (pc := 44) (d := (d + 2)) (w' := gv_I) (as := [.int (x1 - (1 : Int32)), .int (7 : Int32)]) (n := 2) d_Da_weekday_44 rfl rfl (Nat.le_of_ble_eq_true rfl) tw_1519 tw_1520 tw_106 cw_Ma_floorMod hy_Ma_floorMod (Nat.le_of_ble_eq_true rfl) (p_Ma_floorMod (d + 2) (x1 - (1 : Int32)) (7 : Int32) h1) fun x2 h2 => ?_
          refine gk_iconst (pc := 47) (1 : Int32) d_Da_weekday_47 rfl ?_
          refine gk_iadd (pc := 48) d_Da_weekday_48 ?_
          refine gk_i2d (pc := 49) d_Da_weekday_49 ?_
          refine gk_callS (pc := 50) (d := (d + 2)) (w' := gv_R) (as := [.double (FP.i2d (x2 + (1 : Int32)))]) (n := 1) d_Da_weekday_50 rfl rfl (Nat.le_of_ble_eq_true rfl) tw_1531 tw_317 tw_97 cw_Va_ofNumber hy_Va_ofNumber (Nat.le_of_ble_eq_true rfl) (p_Va_ofNumber d (FP.i2d (x2 + (1 : Int32))) h2) fun x3 h3 => ?_
          exact gk_aret (pc := 53) rfl d_Da_weekday_53 rfl (Or.inl ⟨_, rfl⟩)
        · refine gk_iload (pc := 54) 0 d_Da_weekday_54 rfl ?_
          refine gk_iconst (pc := 56) (2 : Int32) d_Da_weekday_56 rfl ?_
          refine gk_isub (pc := 57) d_Da_weekday_57 ?_
          refine gk_bipush (pc := 58) (7 : Int32) d_Da_weekday_58 rfl ?_
          refine gk_callS (pc := 60) (d := (d + 2)) (w' := gv_I) (as := [.int (x1 - (2 : Int32)), .int (7 : Int32)]) (n := 2) d_Da_weekday_60 rfl rfl (Nat.le_of_ble_eq_true rfl) tw_1519 tw_1520 tw_106 cw_Ma_floorMod hy_Ma_floorMod (Nat.le_of_ble_eq_true rfl) (p_Ma_floorMod (d + 2) (x1 - (2 : Int32)) (7 : Int32) h1) fun x4 h4 => ?_
          refine gk_lload_n (pc := 63) 2 d_Da_weekday_63 rfl ?_
          refine gk_ldc2 (pc := 64) tw_1549 d_Da_weekday_64 ?_
          refine gk_lcmp (pc := 67) d_Da_weekday_67 ?_
          refine gk_if_ne (pc := 68) 75 d_Da_weekday_68 rfl (fun _ => ?_) (fun _ => ?_)
          · refine gk_iconst (pc := 71) (1 : Int32) d_Da_weekday_71 rfl ?_
            refine gk_goto (pc := 72) 76 d_Da_weekday_72 rfl ?_
            refine gk_weak [] (L' := []) rfl ?_
            exact p_Da_weekday_b76 d x4 (1 : Int32) h4
          · refine gk_iconst (pc := 75) (0 : Int32) d_Da_weekday_75 rfl ?_
            refine gk_weak [] (L' := []) rfl ?_
            exact p_Da_weekday_b76 d x4 (0 : Int32) h4
      · refine gk_weak [] (L' := []) rfl ?_
        exact p_Da_weekday_b26 d h1
theorem p_Da_weekday (d : Nat) (a0 : UInt64) (a1 : Int64) (h : gk_H) : ∀ r h1, f_Da_weekday a0 a1 h = some (r, h1) → gk_M (d + 3) y_Da_weekday b_Da_weekday 5 (some (.object "ValueAlgebra$Value")) [.double a0, .long a1] h (.inl (gv_R r)) h1 :=
  fun r h1 e => gk_M_of2 (by decide +kernel) (by simp [lv_args, gk_cat_rf, gk_catI, gk_catJ, gk_catD, gv_V, gv_I, gv_J, gv_D, gv_R]) (by simp [lg_sl, gk_cat_rf, gk_catI, gk_catJ, gk_catD, gv_V, gv_I, gv_J, gv_D, gv_R]) (w_Da_weekday d a0 a1 h r h1 e)
theorem d_Da_partOfDate_0 : decode b_Da_partOfDate 0 = .ok (.dload_n 1, 1) := by decide +kernel
theorem d_Da_partOfDate_1 : decode b_Da_partOfDate 1 = .ok (.invokestatic 96, 3) := by decide +kernel
theorem d_Da_partOfDate_4 : decode b_Da_partOfDate 4 = .ok (.istore_n 3, 1) := by decide +kernel
theorem d_Da_partOfDate_5 : decode b_Da_partOfDate 5 = .ok (.iload_n 3, 1) := by decide +kernel
theorem d_Da_partOfDate_6 : decode b_Da_partOfDate 6 = .ok (.iconst (-1), 1) := by decide +kernel
theorem d_Da_partOfDate_7 : decode b_Da_partOfDate 7 = .ok (.if_icmp .ne 9, 3) := by decide +kernel
theorem d_Da_partOfDate_10 : decode b_Da_partOfDate 10 = .ok (.bipush 6, 2) := by decide +kernel
theorem d_Da_partOfDate_12 : decode b_Da_partOfDate 12 = .ok (.invokestatic 49, 3) := by decide +kernel
theorem d_Da_partOfDate_15 : decode b_Da_partOfDate 15 = .ok (.areturn, 1) := by decide +kernel
theorem d_Da_partOfDate_16 : decode b_Da_partOfDate 16 = .ok (.iload_n 3, 1) := by decide +kernel
theorem d_Da_partOfDate_17 : decode b_Da_partOfDate 17 = .ok (.invokestatic 100, 3) := by decide +kernel
theorem d_Da_partOfDate_20 : decode b_Da_partOfDate 20 = .ok (.istore 4, 2) := by decide +kernel
theorem d_Da_partOfDate_22 : decode b_Da_partOfDate 22 = .ok (.iload_n 0, 1) := by decide +kernel
theorem d_Da_partOfDate_23 : decode b_Da_partOfDate 23 = .ok (.lookupswitch 51 #[(82, 25), (83, 39)], 25) := by decide +kernel
theorem d_Da_partOfDate_48 : decode b_Da_partOfDate 48 = .ok (.sipush 1900, 3) := by decide +kernel
theorem d_Da_partOfDate_51 : decode b_Da_partOfDate 51 = .ok (.iload 4, 2) := by decide +kernel
theorem d_Da_partOfDate_53 : decode b_Da_partOfDate 53 = .ok (.bipush 12, 2) := by decide +kernel
theorem d_Da_partOfDate_55 : decode b_Da_partOfDate 55 = .ok (.idiv, 1) := by decide +kernel
theorem d_Da_partOfDate_56 : decode b_Da_partOfDate 56 = .ok (.iadd, 1) := by decide +kernel
theorem d_Da_partOfDate_57 : decode b_Da_partOfDate 57 = .ok (.i2d, 1) := by decide +kernel
theorem d_Da_partOfDate_58 : decode b_Da_partOfDate 58 = .ok (.invokestatic 59, 3) := by decide +kernel
theorem d_Da_partOfDate_61 : decode b_Da_partOfDate 61 = .ok (.areturn, 1) := by decide +kernel
theorem d_Da_partOfDate_62 : decode b_Da_partOfDate 62 = .ok (.iload 4, 2) := by decide +kernel
theorem d_Da_partOfDate_64 : decode b_Da_partOfDate 64 = .ok (.bipush 12, 2) := by decide +kernel
theorem d_Da_partOfDate_66 : decode b_Da_partOfDate 66 = .ok (.irem, 1) := by decide +kernel
theorem d_Da_partOfDate_67 : decode b_Da_partOfDate 67 = .ok (.iconst 1, 1) := by decide +kernel
theorem d_Da_partOfDate_68 : decode b_Da_partOfDate 68 = .ok (.iadd, 1) := by decide +kernel
theorem d_Da_partOfDate_69 : decode b_Da_partOfDate 69 = .ok (.i2d, 1) := by decide +kernel
theorem d_Da_partOfDate_70 : decode b_Da_partOfDate 70 = .ok (.invokestatic 59, 3) := by decide +kernel
theorem d_Da_partOfDate_73 : decode b_Da_partOfDate 73 = .ok (.areturn, 1) := by decide +kernel
theorem d_Da_partOfDate_74 : decode b_Da_partOfDate 74 = .ok (.iload_n 3, 1) := by decide +kernel
theorem d_Da_partOfDate_75 : decode b_Da_partOfDate 75 = .ok (.iload 4, 2) := by decide +kernel
theorem d_Da_partOfDate_77 : decode b_Da_partOfDate 77 = .ok (.invokestatic 80, 3) := by decide +kernel
theorem d_Da_partOfDate_80 : decode b_Da_partOfDate 80 = .ok (.isub, 1) := by decide +kernel
theorem d_Da_partOfDate_81 : decode b_Da_partOfDate 81 = .ok (.iconst 1, 1) := by decide +kernel
theorem d_Da_partOfDate_82 : decode b_Da_partOfDate 82 = .ok (.iadd, 1) := by decide +kernel
theorem d_Da_partOfDate_83 : decode b_Da_partOfDate 83 = .ok (.i2d, 1) := by decide +kernel
theorem d_Da_partOfDate_84 : decode b_Da_partOfDate 84 = .ok (.invokestatic 59, 3) := by decide +kernel
theorem d_Da_partOfDate_87 : decode b_Da_partOfDate 87 = .ok (.areturn, 1) := by decide +kernel
theorem w_Da_partOfDate (d : Nat) (a0 : Int32) (a1 : UInt64) (h : gk_H) : gk_P gw_R (d + 3) y_Da_partOfDate b_Da_partOfDate 5 (some (.object "ValueAlgebra$Value")) [] (f_Da_partOfDate a0 a1 h) 0 [(0, .int a0), (1, .double a1)] [] h := by
  unfold f_Da_partOfDate
  refine gk_dload_n (pc := 0) 1 d_Da_partOfDate_0 rfl ?_
  refine gk_callS (pc := 1) (d := (d + 2)) (w' := gv_I) (as := [.double a1]) (n := 1) d_Da_partOfDate_1 rfl rfl (Nat.le_of_ble_eq_true rfl) tw_1536 tw_1537 tw_124 cw_Da_dayOf hy_Da_dayOf (Nat.le_of_ble_eq_true rfl) (p_Da_dayOf (d + 2) a1 h) fun x1 h1 => ?_
  refine gk_istore_n (pc := 4) (L' := [(3, .int x1), (0, .int a0), (1, .double a1)]) d_Da_partOfDate_4 (Nat.le_of_ble_eq_true rfl) rfl ?_
  refine gk_iload_n (pc := 5) 0 d_Da_partOfDate_5 rfl ?_
  refine gk_iconst (pc := 6) (-1 : Int32) d_Da_partOfDate_6 rfl ?_
  refine gk_icmp_ne (pc := 7) 16 d_Da_partOfDate_7 rfl (fun _ => ?_) (fun _ => ?_)
  · refine gk_bipush (pc := 10) (6 : Int32) d_Da_partOfDate_10 rfl ?_
    refine gk_callS (pc := 12) (d := (d + 2)) (w' := gv_R) (as := [.int (6 : Int32)]) (n := 1) d_Da_partOfDate_12 rfl rfl (Nat.le_of_ble_eq_true rfl) tw_1513 tw_236 tw_97 cw_Va_ofError hy_Va_ofError (Nat.le_of_ble_eq_true rfl) (p_Va_ofError d (6 : Int32) h1) fun x2 h2 => ?_
    exact gk_aret (pc := 15) rfl d_Da_partOfDate_15 rfl (Or.inl ⟨_, rfl⟩)
  · refine gk_iload_n (pc := 16) 0 d_Da_partOfDate_16 rfl ?_
    refine gk_callS (pc := 17) (d := (d + 2)) (w' := gv_I) (as := [.int x1]) (n := 1) d_Da_partOfDate_17 rfl rfl (Nat.le_of_ble_eq_true rfl) tw_1540 tw_1541 tw_124 cw_Da_monthOf hy_Da_monthOf (Nat.le_of_ble_eq_true rfl) (p_Da_monthOf d x1 h1) fun x3 h3 => ?_
    refine gk_istore (pc := 20) (L' := [(4, .int x3), (3, .int x1), (0, .int a0), (1, .double a1)]) d_Da_partOfDate_20 (Nat.le_of_ble_eq_true rfl) rfl ?_
    refine gk_iload_n (pc := 22) 2 d_Da_partOfDate_22 rfl ?_
    refine gk_ite (fun z23_0 => ?_) (fun z23_0 => ?_)
    · refine gk_lsw (pc := 23) 48 d_Da_partOfDate_23 (by decide) (by rw [z23_0]) rfl ?_
      refine gk_sipush (pc := 48) (1900 : Int32) d_Da_partOfDate_48 rfl ?_
      refine gk_iload (pc := 51) 0 d_Da_partOfDate_51 rfl ?_
      refine gk_bipush (pc := 53) (12 : Int32) d_Da_partOfDate_53 rfl ?_
      refine gk_idiv (pc := 55) (by decide) d_Da_partOfDate_55 ?_
      refine gk_iadd (pc := 56) d_Da_partOfDate_56 ?_
      refine gk_i2d (pc := 57) d_Da_partOfDate_57 ?_
      refine gk_callS (pc := 58) (d := (d + 2)) (w' := gv_R) (as := [.double (FP.i2d ((1900 : Int32) + (x3 / (12 : Int32))))]) (n := 1) d_Da_partOfDate_58 rfl rfl (Nat.le_of_ble_eq_true rfl) tw_1531 tw_317 tw_97 cw_Va_ofNumber hy_Va_ofNumber (Nat.le_of_ble_eq_true rfl) (p_Va_ofNumber d (FP.i2d ((1900 : Int32) + (x3 / (12 : Int32)))) h3) fun x4 h4 => ?_
      exact gk_aret (pc := 61) rfl d_Da_partOfDate_61 rfl (Or.inl ⟨_, rfl⟩)
    ·
      refine gk_ite (fun z23_1 => ?_) (fun z23_1 => ?_)
      · refine gk_lsw (pc := 23) 62 d_Da_partOfDate_23 (by decide) (by rw [z23_1]) rfl ?_
        refine gk_iload (pc := 62) 0 d_Da_partOfDate_62 rfl ?_
        refine gk_bipush (pc := 64) (12 : Int32) d_Da_partOfDate_64 rfl ?_
        refine gk_irem (pc := 66) (by decide) d_Da_partOfDate_66 ?_
        refine gk_iconst (pc := 67) (1 : Int32) d_Da_partOfDate_67 rfl ?_
        refine gk_iadd (pc := 68) d_Da_partOfDate_68 ?_
        refine gk_i2d (pc := 69) d_Da_partOfDate_69 ?_
        refine gk_callS (pc := 70) (d := (d + 2)) (w' := gv_R) (as := [.double (FP.i2d ((x3 - x3 / (12 : Int32) * (12 : Int32)) + (1 : Int32)))]) (n := 1) d_Da_partOfDate_70 rfl rfl (Nat.le_of_ble_eq_true rfl) tw_1531 tw_317 tw_97 cw_Va_ofNumber hy_Va_ofNumber (Nat.le_of_ble_eq_true rfl) (p_Va_ofNumber d (FP.i2d ((x3 - x3 / (12 : Int32) * (12 : Int32)) + (1 : Int32))) h3) fun x5 h5 => ?_
        exact gk_aret (pc := 73) rfl d_Da_partOfDate_73 rfl (Or.inl ⟨_, rfl⟩)
      ·
        refine gk_lsw (pc := 23) 74 d_Da_partOfDate_23 (by decide) (by show Op.lookupswitch.offset [(82, 25), (83, 39)] _ _ = _; rw [lv_osw z23_0 (by decide), lv_osw z23_1 (by decide)]) rfl ?_
        refine gk_iload_n (pc := 74) 1 d_Da_partOfDate_74 rfl ?_
        refine gk_iload (pc := 75) 0 d_Da_partOfDate_75 rfl ?_
        refine gk_callS (pc := 77) (d := (d + 2)) (w' := gv_I) (as := [.int x3]) (n := 1) d_Da_partOfDate_77 rfl rfl (Nat.le_of_ble_eq_true rfl) tw_1516 tw_1517 tw_124 cw_Da_firstOf hy_Da_firstOf (Nat.le_of_ble_eq_true rfl) (p_Da_firstOf (d + 1) x3 h3) fun x6 h6 => ?_
        refine gk_isub (pc := 80) d_Da_partOfDate_80 ?_
        refine gk_iconst (pc := 81) (1 : Int32) d_Da_partOfDate_81 rfl ?_
        refine gk_iadd (pc := 82) d_Da_partOfDate_82 ?_
        refine gk_i2d (pc := 83) d_Da_partOfDate_83 ?_
        refine gk_callS (pc := 84) (d := (d + 2)) (w' := gv_R) (as := [.double (FP.i2d ((x1 - x6) + (1 : Int32)))]) (n := 1) d_Da_partOfDate_84 rfl rfl (Nat.le_of_ble_eq_true rfl) tw_1531 tw_317 tw_97 cw_Va_ofNumber hy_Va_ofNumber (Nat.le_of_ble_eq_true rfl) (p_Va_ofNumber d (FP.i2d ((x1 - x6) + (1 : Int32))) h6) fun x7 h7 => ?_
        exact gk_aret (pc := 87) rfl d_Da_partOfDate_87 rfl (Or.inl ⟨_, rfl⟩)
theorem p_Da_partOfDate (d : Nat) (a0 : Int32) (a1 : UInt64) (h : gk_H) : ∀ r h1, f_Da_partOfDate a0 a1 h = some (r, h1) → gk_M (d + 3) y_Da_partOfDate b_Da_partOfDate 5 (some (.object "ValueAlgebra$Value")) [.int a0, .double a1] h (.inl (gv_R r)) h1 :=
  fun r h1 e => gk_M_of2 (by decide +kernel) (by simp [lv_args, gk_cat_rf, gk_catI, gk_catJ, gk_catD, gv_V, gv_I, gv_J, gv_D, gv_R]) (by simp [lg_sl, gk_cat_rf, gk_catI, gk_catJ, gk_catD, gv_V, gv_I, gv_J, gv_D, gv_R]) (w_Da_partOfDate d a0 a1 h r h1 e)
theorem d_Da_date_0 : decode b_Da_date 0 = .ok (.lload_n 0, 1) := by decide +kernel
theorem d_Da_date_1 : decode b_Da_date 1 = .ok (.invokestatic 84, 3) := by decide +kernel
theorem d_Da_date_4 : decode b_Da_date 4 = .ok (.ifCond .eq 18, 3) := by decide +kernel
theorem d_Da_date_7 : decode b_Da_date 7 = .ok (.lload_n 2, 1) := by decide +kernel
theorem d_Da_date_8 : decode b_Da_date 8 = .ok (.invokestatic 84, 3) := by decide +kernel
theorem d_Da_date_11 : decode b_Da_date 11 = .ok (.ifCond .eq 11, 3) := by decide +kernel
theorem d_Da_date_14 : decode b_Da_date 14 = .ok (.lload 4, 2) := by decide +kernel
theorem d_Da_date_16 : decode b_Da_date 16 = .ok (.invokestatic 84, 3) := by decide +kernel
theorem d_Da_date_19 : decode b_Da_date 19 = .ok (.ifCond .ne 9, 3) := by decide +kernel
theorem d_Da_date_22 : decode b_Da_date 22 = .ok (.bipush 6, 2) := by decide +kernel
theorem d_Da_date_24 : decode b_Da_date 24 = .ok (.invokestatic 49, 3) := by decide +kernel
theorem d_Da_date_27 : decode b_Da_date 27 = .ok (.areturn, 1) := by decide +kernel
theorem d_Da_date_28 : decode b_Da_date 28 = .ok (.lload_n 0, 1) := by decide +kernel
theorem d_Da_date_29 : decode b_Da_date 29 = .ok (.ldc2_w 88, 3) := by decide +kernel
theorem d_Da_date_32 : decode b_Da_date 32 = .ok (.lcmp, 1) := by decide +kernel
theorem d_Da_date_33 : decode b_Da_date 33 = .ok (.ifCond .ge 11, 3) := by decide +kernel
theorem d_Da_date_36 : decode b_Da_date 36 = .ok (.lload_n 0, 1) := by decide +kernel
theorem d_Da_date_37 : decode b_Da_date 37 = .ok (.ldc2_w 88, 3) := by decide +kernel
theorem d_Da_date_40 : decode b_Da_date 40 = .ok (.ladd, 1) := by decide +kernel
theorem d_Da_date_41 : decode b_Da_date 41 = .ok (.goto 4, 3) := by decide +kernel
theorem d_Da_date_44 : decode b_Da_date 44 = .ok (.lload_n 0, 1) := by decide +kernel
theorem d_Da_date_45 : decode b_Da_date 45 = .ok (.lstore 6, 2) := by decide +kernel
theorem d_Da_date_47 : decode b_Da_date 47 = .ok (.lload 6, 2) := by decide +kernel
theorem d_Da_date_49 : decode b_Da_date 49 = .ok (.ldc2_w 88, 3) := by decide +kernel
theorem d_Da_date_52 : decode b_Da_date 52 = .ok (.lsub, 1) := by decide +kernel
theorem d_Da_date_53 : decode b_Da_date 53 = .ok (.ldc2_w 90, 3) := by decide +kernel
theorem d_Da_date_56 : decode b_Da_date 56 = .ok (.lmul, 1) := by decide +kernel
theorem d_Da_date_57 : decode b_Da_date 57 = .ok (.lload_n 2, 1) := by decide +kernel
theorem d_Da_date_58 : decode b_Da_date 58 = .ok (.ladd, 1) := by decide +kernel
theorem d_Da_date_59 : decode b_Da_date 59 = .ok (.lconst 1, 1) := by decide +kernel
theorem d_Da_date_60 : decode b_Da_date 60 = .ok (.lsub, 1) := by decide +kernel
theorem d_Da_date_61 : decode b_Da_date 61 = .ok (.lstore 8, 2) := by decide +kernel
theorem d_Da_date_63 : decode b_Da_date 63 = .ok (.lload 8, 2) := by decide +kernel
theorem d_Da_date_65 : decode b_Da_date 65 = .ok (.lconst 0, 1) := by decide +kernel
theorem d_Da_date_66 : decode b_Da_date 66 = .ok (.lcmp, 1) := by decide +kernel
theorem d_Da_date_67 : decode b_Da_date 67 = .ok (.ifCond .ge 11, 3) := by decide +kernel
theorem d_Da_date_70 : decode b_Da_date 70 = .ok (.bipush 6, 2) := by decide +kernel
theorem d_Da_date_72 : decode b_Da_date 72 = .ok (.invokestatic 49, 3) := by decide +kernel
theorem d_Da_date_75 : decode b_Da_date 75 = .ok (.goto 18, 3) := by decide +kernel
theorem d_Da_date_78 : decode b_Da_date 78 = .ok (.lload 8, 2) := by decide +kernel
theorem d_Da_date_80 : decode b_Da_date 80 = .ok (.l2i, 1) := by decide +kernel
theorem d_Da_date_81 : decode b_Da_date 81 = .ok (.invokestatic 80, 3) := by decide +kernel
theorem d_Da_date_84 : decode b_Da_date 84 = .ok (.i2l, 1) := by decide +kernel
theorem d_Da_date_85 : decode b_Da_date 85 = .ok (.lload 4, 2) := by decide +kernel
theorem d_Da_date_87 : decode b_Da_date 87 = .ok (.ladd, 1) := by decide +kernel
theorem d_Da_date_88 : decode b_Da_date 88 = .ok (.lconst 1, 1) := by decide +kernel
theorem d_Da_date_89 : decode b_Da_date 89 = .ok (.lsub, 1) := by decide +kernel
theorem d_Da_date_90 : decode b_Da_date 90 = .ok (.invokestatic 92, 3) := by decide +kernel
theorem d_Da_date_93 : decode b_Da_date 93 = .ok (.areturn, 1) := by decide +kernel
theorem p_Da_date_b22 (d : Nat)   (h : gk_H) : gk_P gw_R (d + 4) y_Da_date b_Da_date 10 (some (.object "ValueAlgebra$Value")) [] (f_Da_date_b22   h) 22 [] [] h := by
  unfold f_Da_date_b22
  refine gk_bipush (pc := 22) (6 : Int32) d_Da_date_22 rfl ?_
  refine gk_callS (pc := 24) (d := (d + 3)) (w' := gv_R) (as := [.int (6 : Int32)]) (n := 1) d_Da_date_24 rfl rfl (Nat.le_of_ble_eq_true rfl) tw_1513 tw_236 tw_97 cw_Va_ofError hy_Va_ofError (Nat.le_of_ble_eq_true rfl) (p_Va_ofError (d + 1) (6 : Int32) h) fun x1 h1 => ?_
  exact gk_aret (pc := 27) rfl d_Da_date_27 rfl (Or.inl ⟨_, rfl⟩)
theorem p_Da_date_b93 (d : Nat)  (s0 : Option Nat) (h : gk_H) : gk_P gw_R (d + 4) y_Da_date b_Da_date 10 (some (.object "ValueAlgebra$Value")) [] (f_Da_date_b93  s0 h) 93 [] [va_rf s0] h := by
  unfold f_Da_date_b93
  exact gk_aret (pc := 93) rfl d_Da_date_93 rfl (Or.inl ⟨_, rfl⟩)
theorem p_Da_date_b45 (d : Nat)  (v2 : Int64) (v4 : Int64) (s0 : Int64) (h : gk_H) : gk_P gw_R (d + 4) y_Da_date b_Da_date 10 (some (.object "ValueAlgebra$Value")) [] (f_Da_date_b45  v2 v4 s0 h) 45 [(2, .long v2), (4, .long v4)] [.long s0] h := by
  unfold f_Da_date_b45
  refine gk_lstore (pc := 45) (L' := [(6, .long s0), (2, .long v2), (4, .long v4)]) d_Da_date_45 (Nat.le_of_ble_eq_true rfl) rfl ?_
  refine gk_lload (pc := 47) 0 d_Da_date_47 rfl ?_
  refine gk_ldc2 (pc := 49) tw_1514 d_Da_date_49 ?_
  refine gk_lsub (pc := 52) d_Da_date_52 ?_
  refine gk_ldc2 (pc := 53) tw_1515 d_Da_date_53 ?_
  refine gk_lmul (pc := 56) d_Da_date_56 ?_
  refine gk_lload_n (pc := 57) 1 d_Da_date_57 rfl ?_
  refine gk_ladd (pc := 58) d_Da_date_58 ?_
  refine gk_lconst (pc := 59) (1 : Int64) d_Da_date_59 rfl ?_
  refine gk_lsub (pc := 60) d_Da_date_60 ?_
  refine gk_topJ (pc := 61) fun x1 => ?_
  refine gk_lstore (pc := 61) (L' := [(8, .long x1), (6, .long s0), (2, .long v2), (4, .long v4)]) d_Da_date_61 (Nat.le_of_ble_eq_true rfl) rfl ?_
  refine gk_lload (pc := 63) 0 d_Da_date_63 rfl ?_
  refine gk_lconst (pc := 65) (0 : Int64) d_Da_date_65 rfl ?_
  refine gk_lcmp (pc := 66) d_Da_date_66 ?_
  refine gk_if_ge (pc := 67) 78 d_Da_date_67 rfl (fun _ => ?_) (fun _ => ?_)
  · refine gk_lload (pc := 78) 0 d_Da_date_78 rfl ?_
    refine gk_l2i (pc := 80) d_Da_date_80 ?_
    refine gk_callS (pc := 81) (d := (d + 3)) (w' := gv_I) (as := [.int (Int64.toInt32 x1)]) (n := 1) d_Da_date_81 rfl rfl (Nat.le_of_ble_eq_true rfl) tw_1516 tw_1517 tw_124 cw_Da_firstOf hy_Da_firstOf (Nat.le_of_ble_eq_true rfl) (p_Da_firstOf (d + 2) (Int64.toInt32 x1) h) fun x2 h1 => ?_
    refine gk_i2l (pc := 84) d_Da_date_84 ?_
    refine gk_lload (pc := 85) 3 d_Da_date_85 rfl ?_
    refine gk_ladd (pc := 87) d_Da_date_87 ?_
    refine gk_lconst (pc := 88) (1 : Int64) d_Da_date_88 rfl ?_
    refine gk_lsub (pc := 89) d_Da_date_89 ?_
    refine gk_callS (pc := 90) (d := (d + 3)) (w' := gv_R) (as := [.long (((Int32.toInt64 x2) + v4) - (1 : Int64))]) (n := 1) d_Da_date_90 rfl rfl (Nat.le_of_ble_eq_true rfl) tw_1527 tw_1528 tw_124 cw_Da_ofDay hy_Da_ofDay (Nat.le_of_ble_eq_true rfl) (p_Da_ofDay d (((Int32.toInt64 x2) + v4) - (1 : Int64)) h1) fun x3 h2 => ?_
    refine gk_weak [] (L' := []) rfl ?_
    exact p_Da_date_b93 d x3 h2
  · refine gk_bipush (pc := 70) (6 : Int32) d_Da_date_70 rfl ?_
    refine gk_callS (pc := 72) (d := (d + 3)) (w' := gv_R) (as := [.int (6 : Int32)]) (n := 1) d_Da_date_72 rfl rfl (Nat.le_of_ble_eq_true rfl) tw_1513 tw_236 tw_97 cw_Va_ofError hy_Va_ofError (Nat.le_of_ble_eq_true rfl) (p_Va_ofError (d + 1) (6 : Int32) h) fun x4 h3 => ?_
    refine gk_goto (pc := 75) 93 d_Da_date_75 rfl ?_
    refine gk_weak [] (L' := []) rfl ?_
    exact p_Da_date_b93 d x4 h3
theorem w_Da_date (d : Nat) (a0 : Int64) (a1 : Int64) (a2 : Int64) (h : gk_H) : gk_P gw_R (d + 4) y_Da_date b_Da_date 10 (some (.object "ValueAlgebra$Value")) [] (f_Da_date a0 a1 a2 h) 0 [(0, .long a0), (2, .long a1), (4, .long a2)] [] h := by
  unfold f_Da_date
  refine gk_lload_n (pc := 0) 0 d_Da_date_0 rfl ?_
  refine gk_callS (pc := 1) (d := (d + 3)) (w' := gv_I) (as := [.long a0]) (n := 1) d_Da_date_1 rfl rfl (Nat.le_of_ble_eq_true rfl) tw_1508 tw_1509 tw_124 cw_Da_isShort hy_Da_isShort (Nat.le_of_ble_eq_true rfl) (p_Da_isShort (d + 3) a0 h) fun x1 h1 => ?_
  refine gk_if_eq (pc := 4) 22 d_Da_date_4 rfl (fun _ => ?_) (fun _ => ?_)
  · refine gk_weak [] (L' := []) rfl ?_
    exact p_Da_date_b22 d h1
  · refine gk_lload_n (pc := 7) 1 d_Da_date_7 rfl ?_
    refine gk_callS (pc := 8) (d := (d + 3)) (w' := gv_I) (as := [.long a1]) (n := 1) d_Da_date_8 rfl rfl (Nat.le_of_ble_eq_true rfl) tw_1508 tw_1509 tw_124 cw_Da_isShort hy_Da_isShort (Nat.le_of_ble_eq_true rfl) (p_Da_isShort (d + 3) a1 h1) fun x2 h2 => ?_
    refine gk_if_eq (pc := 11) 22 d_Da_date_11 rfl (fun _ => ?_) (fun _ => ?_)
    · refine gk_weak [] (L' := []) rfl ?_
      exact p_Da_date_b22 d h2
    · refine gk_lload (pc := 14) 2 d_Da_date_14 rfl ?_
      refine gk_callS (pc := 16) (d := (d + 3)) (w' := gv_I) (as := [.long a2]) (n := 1) d_Da_date_16 rfl rfl (Nat.le_of_ble_eq_true rfl) tw_1508 tw_1509 tw_124 cw_Da_isShort hy_Da_isShort (Nat.le_of_ble_eq_true rfl) (p_Da_isShort (d + 3) a2 h2) fun x3 h3 => ?_
      refine gk_if_ne (pc := 19) 28 d_Da_date_19 rfl (fun _ => ?_) (fun _ => ?_)
      · refine gk_weak [] (L' := []) rfl ?_
        exact p_Da_date_b22 d h3
      · refine gk_lload_n (pc := 28) 0 d_Da_date_28 rfl ?_
        refine gk_ldc2 (pc := 29) tw_1514 d_Da_date_29 ?_
        refine gk_lcmp (pc := 32) d_Da_date_32 ?_
        refine gk_if_ge (pc := 33) 44 d_Da_date_33 rfl (fun _ => ?_) (fun _ => ?_)
        · refine gk_lload_n (pc := 44) 0 d_Da_date_44 rfl ?_
          refine gk_weak [1, 2] (L' := [(2, .long a1), (4, .long a2)]) rfl ?_
          exact p_Da_date_b45 d a1 a2 a0 h3
        · refine gk_lload_n (pc := 36) 0 d_Da_date_36 rfl ?_
          refine gk_ldc2 (pc := 37) tw_1514 d_Da_date_37 ?_
          refine gk_ladd (pc := 40) d_Da_date_40 ?_
          refine gk_goto (pc := 41) 45 d_Da_date_41 rfl ?_
          refine gk_weak [1, 2] (L' := [(2, .long a1), (4, .long a2)]) rfl ?_
          exact p_Da_date_b45 d a1 a2 (a0 + (1900 : Int64)) h3
theorem p_Da_date (d : Nat) (a0 : Int64) (a1 : Int64) (a2 : Int64) (h : gk_H) : ∀ r h1, f_Da_date a0 a1 a2 h = some (r, h1) → gk_M (d + 4) y_Da_date b_Da_date 10 (some (.object "ValueAlgebra$Value")) [.long a0, .long a1, .long a2] h (.inl (gv_R r)) h1 :=
  fun r h1 e => gk_M_of2 (by decide +kernel) (by simp [lv_args, gk_cat_rf, gk_catI, gk_catJ, gk_catD, gv_V, gv_I, gv_J, gv_D, gv_R]) (by simp [lg_sl, gk_cat_rf, gk_catI, gk_catJ, gk_catD, gv_V, gv_I, gv_J, gv_D, gv_R]) (w_Da_date d a0 a1 a2 h r h1 e)
