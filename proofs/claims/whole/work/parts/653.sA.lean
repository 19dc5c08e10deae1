theorem d_Su_ofRow_0 : decode b_Su_ofRow 0 = .ok (.iload_n 0, 1) := by decide +kernel
theorem d_Su_ofRow_1 : decode b_Su_ofRow 1 = .ok (.tableswitch 148 0 14 #[75, 83, 91, 100, 105, 105, 148, 148, 148, 123, 148, 148, 148, 128, 137], 75) := by decide +kernel
theorem d_Su_ofRow_76 : decode b_Su_ofRow 76 = .ok (.aload_n 1, 1) := by decide +kernel
theorem d_Su_ofRow_77 : decode b_Su_ofRow 77 = .ok (.invokestatic 34, 3) := by decide +kernel
theorem d_Su_ofRow_80 : decode b_Su_ofRow 80 = .ok (.invokestatic 38, 3) := by decide +kernel
theorem d_Su_ofRow_83 : decode b_Su_ofRow 83 = .ok (.areturn, 1) := by decide +kernel
theorem d_Su_ofRow_84 : decode b_Su_ofRow 84 = .ok (.aload_n 1, 1) := by decide +kernel
theorem d_Su_ofRow_85 : decode b_Su_ofRow 85 = .ok (.invokestatic 44, 3) := by decide +kernel
theorem d_Su_ofRow_88 : decode b_Su_ofRow 88 = .ok (.invokestatic 38, 3) := by decide +kernel
theorem d_Su_ofRow_91 : decode b_Su_ofRow 91 = .ok (.areturn, 1) := by decide +kernel
theorem d_Su_ofRow_92 : decode b_Su_ofRow 92 = .ok (.aload_n 1, 1) := by decide +kernel
theorem d_Su_ofRow_93 : decode b_Su_ofRow 93 = .ok (.dconst 0, 1) := by decide +kernel
theorem d_Su_ofRow_94 : decode b_Su_ofRow 94 = .ok (.invokestatic 47, 3) := by decide +kernel
theorem d_Su_ofRow_97 : decode b_Su_ofRow 97 = .ok (.invokestatic 38, 3) := by decide +kernel
theorem d_Su_ofRow_100 : decode b_Su_ofRow 100 = .ok (.areturn, 1) := by decide +kernel
theorem d_Su_ofRow_101 : decode b_Su_ofRow 101 = .ok (.aload_n 1, 1) := by decide +kernel
theorem d_Su_ofRow_102 : decode b_Su_ofRow 102 = .ok (.invokestatic 51, 3) := by decide +kernel
theorem d_Su_ofRow_105 : decode b_Su_ofRow 105 = .ok (.areturn, 1) := by decide +kernel
theorem d_Su_ofRow_106 : decode b_Su_ofRow 106 = .ok (.aload_n 1, 1) := by decide +kernel
theorem d_Su_ofRow_107 : decode b_Su_ofRow 107 = .ok (.iload_n 0, 1) := by decide +kernel
theorem d_Su_ofRow_108 : decode b_Su_ofRow 108 = .ok (.iconst 5, 1) := by decide +kernel
theorem d_Su_ofRow_109 : decode b_Su_ofRow 109 = .ok (.if_icmp .ne 7, 3) := by decide +kernel
theorem d_Su_ofRow_112 : decode b_Su_ofRow 112 = .ok (.iconst 1, 1) := by decide +kernel
theorem d_Su_ofRow_113 : decode b_Su_ofRow 113 = .ok (.goto 4, 3) := by decide +kernel
theorem d_Su_ofRow_116 : decode b_Su_ofRow 116 = .ok (.iconst 0, 1) := by decide +kernel
theorem d_Su_ofRow_117 : decode b_Su_ofRow 117 = .ok (.invokestatic 54, 3) := by decide +kernel
theorem d_Su_ofRow_120 : decode b_Su_ofRow 120 = .ok (.invokestatic 38, 3) := by decide +kernel
theorem d_Su_ofRow_123 : decode b_Su_ofRow 123 = .ok (.areturn, 1) := by decide +kernel
theorem d_Su_ofRow_124 : decode b_Su_ofRow 124 = .ok (.aload_n 1, 1) := by decide +kernel
theorem d_Su_ofRow_125 : decode b_Su_ofRow 125 = .ok (.invokestatic 58, 3) := by decide +kernel
theorem d_Su_ofRow_128 : decode b_Su_ofRow 128 = .ok (.areturn, 1) := by decide +kernel
theorem d_Su_ofRow_129 : decode b_Su_ofRow 129 = .ok (.aload_n 1, 1) := by decide +kernel
theorem d_Su_ofRow_130 : decode b_Su_ofRow 130 = .ok (.aload_n 1, 1) := by decide +kernel
theorem d_Su_ofRow_131 : decode b_Su_ofRow 131 = .ok (.invokevirtual 61, 3) := by decide +kernel
theorem d_Su_ofRow_134 : decode b_Su_ofRow 134 = .ok (.invokestatic 65, 3) := by decide +kernel
theorem d_Su_ofRow_137 : decode b_Su_ofRow 137 = .ok (.areturn, 1) := by decide +kernel
theorem d_Su_ofRow_138 : decode b_Su_ofRow 138 = .ok (.aload_n 1, 1) := by decide +kernel
theorem d_Su_ofRow_139 : decode b_Su_ofRow 139 = .ok (.aload_n 1, 1) := by decide +kernel
theorem d_Su_ofRow_140 : decode b_Su_ofRow 140 = .ok (.invokevirtual 61, 3) := by decide +kernel
theorem d_Su_ofRow_143 : decode b_Su_ofRow 143 = .ok (.iconst 1, 1) := by decide +kernel
theorem d_Su_ofRow_144 : decode b_Su_ofRow 144 = .ok (.isub, 1) := by decide +kernel
theorem d_Su_ofRow_145 : decode b_Su_ofRow 145 = .ok (.invokestatic 65, 3) := by decide +kernel
theorem d_Su_ofRow_148 : decode b_Su_ofRow 148 = .ok (.areturn, 1) := by decide +kernel
theorem d_Su_ofRow_149 : decode b_Su_ofRow 149 = .ok (.iconst 3, 1) := by decide +kernel
theorem d_Su_ofRow_150 : decode b_Su_ofRow 150 = .ok (.invokestatic 69, 3) := by decide +kernel
theorem d_Su_ofRow_153 : decode b_Su_ofRow 153 = .ok (.areturn, 1) := by decide +kernel
theorem p_Su_ofRow_b149 (d : Nat)   (h : gk_H) : gk_P gw_R (d + 5) y_Su_ofRow b_Su_ofRow 2 (some (.object "ValueAlgebra$Value")) [] (f_Su_ofRow_b149   h) 149 [] [] h := by
  unfold f_Su_ofRow_b149
  refine gk_iconst (pc := 149) (3 : Int32) d_Su_ofRow_149 rfl ?_
  refine gk_callS (pc := 150) (d := (d + 4)) (w' := gv_R) (as := [.int (3 : Int32)]) (n := 1) d_Su_ofRow_150 rfl rfl (Nat.le_of_ble_eq_true rfl) tw_1074 tw_236 tw_97 cw_Va_ofError hy_Va_ofError (Nat.le_of_ble_eq_true rfl) (p_Va_ofError (d + 2) (3 : Int32) h) fun x1 h1 => ?_
  exact gk_aret (pc := 153) rfl d_Su_ofRow_153 rfl (Or.inl ⟨_, rfl⟩)
theorem p_Su_ofRow_b117 (d : Nat)  (s0 : Option Nat) (s1 : Int32) (h : gk_H) : gk_P gw_R (d + 5) y_Su_ofRow b_Su_ofRow 2 (some (.object "ValueAlgebra$Value")) [] (f_Su_ofRow_b117  s0 s1 h) 117 [] [.int s1, va_rf s0] h := by
  unfold f_Su_ofRow_b117
  refine gk_callS (pc := 117) (d := (d + 4)) (w' := gv_D) (as := [va_rf s0, .int s1]) (n := 2) d_Su_ofRow_117 rfl rfl (Nat.le_of_ble_eq_true rfl) tw_1219 tw_1220 tw_119 cw_Su_extreme hy_Su_extreme (Nat.le_of_ble_eq_true rfl) (p_Su_extreme (d + 3) s0 s1 h) fun x1 h1 => ?_
  refine gk_callS (pc := 120) (d := (d + 4)) (w' := gv_R) (as := [.double x1]) (n := 1) d_Su_ofRow_120 rfl rfl (Nat.le_of_ble_eq_true rfl) tw_1047 tw_317 tw_97 cw_Va_ofNumber hy_Va_ofNumber (Nat.le_of_ble_eq_true rfl) (p_Va_ofNumber (d + 2) x1 h1) fun x2 h2 => ?_
  exact gk_aret (pc := 123) rfl d_Su_ofRow_123 rfl (Or.inl ⟨_, rfl⟩)
theorem p_Su_ofRow_b106 (d : Nat)  (v0 : Int32) (v1 : Option Nat) (h : gk_H) : gk_P gw_R (d + 5) y_Su_ofRow b_Su_ofRow 2 (some (.object "ValueAlgebra$Value")) [] (f_Su_ofRow_b106  v0 v1 h) 106 [(0, .int v0), (1, va_rf v1)] [] h := by
  unfold f_Su_ofRow_b106
  refine gk_aload_n (pc := 106) 1 d_Su_ofRow_106 rfl ?_
  refine gk_iload_n (pc := 107) 0 d_Su_ofRow_107 rfl ?_
  refine gk_iconst (pc := 108) (5 : Int32) d_Su_ofRow_108 rfl ?_
  refine gk_icmp_ne (pc := 109) 116 d_Su_ofRow_109 rfl (fun _ => ?_) (fun _ => ?_)
  · refine gk_iconst (pc := 112) (1 : Int32) d_Su_ofRow_112 rfl ?_
    refine gk_goto (pc := 113) 117 d_Su_ofRow_113 rfl ?_
    refine gk_weak [] (L' := []) rfl ?_
    exact p_Su_ofRow_b117 d v1 (1 : Int32) h
  · refine gk_iconst (pc := 116) (0 : Int32) d_Su_ofRow_116 rfl ?_
    refine gk_weak [] (L' := []) rfl ?_
    exact p_Su_ofRow_b117 d v1 (0 : Int32) h
theorem w_Su_ofRow (d : Nat) (a0 : Int32) (a1 : Option Nat) (h : gk_H) : gk_P gw_R (d + 5) y_Su_ofRow b_Su_ofRow 2 (some (.object "ValueAlgebra$Value")) [] (f_Su_ofRow a0 a1 h) 0 [(0, .int a0), (1, va_rf a1)] [] h := by
  unfold f_Su_ofRow
  refine gk_iload_n (pc := 0) 0 d_Su_ofRow_0 rfl ?_
  refine gk_ite (fun z1_0 => ?_) (fun z1_0 => ?_)
  · refine gk_tsw_in (pc := 1) (0 : Int32) 76 d_Su_ofRow_1 z1_0 (by decide) (by decide) rfl rfl ?_
    refine gk_aload_n (pc := 76) 1 d_Su_ofRow_76 rfl ?_
    refine gk_callS (pc := 77) (d := (d + 4)) (w' := gv_D) (as := [va_rf a1]) (n := 1) d_Su_ofRow_77 rfl rfl (Nat.le_of_ble_eq_true rfl) tw_1207 tw_1208 tw_119 cw_Su_sum hy_Su_sum (Nat.le_of_ble_eq_true rfl) (p_Su_sum (d + 3) a1 h) fun x1 h1 => ?_
    refine gk_callS (pc := 80) (d := (d + 4)) (w' := gv_R) (as := [.double x1]) (n := 1) d_Su_ofRow_80 rfl rfl (Nat.le_of_ble_eq_true rfl) tw_1047 tw_317 tw_97 cw_Va_ofNumber hy_Va_ofNumber (Nat.le_of_ble_eq_true rfl) (p_Va_ofNumber (d + 2) x1 h1) fun x2 h2 => ?_
    exact gk_aret (pc := 83) rfl d_Su_ofRow_83 rfl (Or.inl ⟨_, rfl⟩)
  ·
    refine gk_ite (fun z1_1 => ?_) (fun z1_1 => ?_)
    · refine gk_tsw_in (pc := 1) (1 : Int32) 84 d_Su_ofRow_1 z1_1 (by decide) (by decide) rfl rfl ?_
      refine gk_aload_n (pc := 84) 1 d_Su_ofRow_84 rfl ?_
      refine gk_callS (pc := 85) (d := (d + 4)) (w' := gv_D) (as := [va_rf a1]) (n := 1) d_Su_ofRow_85 rfl rfl (Nat.le_of_ble_eq_true rfl) tw_1210 tw_1211 tw_119 cw_Su_product hy_Su_product (Nat.le_of_ble_eq_true rfl) (p_Su_product (d + 3) a1 h) fun x3 h3 => ?_
      refine gk_callS (pc := 88) (d := (d + 4)) (w' := gv_R) (as := [.double x3]) (n := 1) d_Su_ofRow_88 rfl rfl (Nat.le_of_ble_eq_true rfl) tw_1047 tw_317 tw_97 cw_Va_ofNumber hy_Va_ofNumber (Nat.le_of_ble_eq_true rfl) (p_Va_ofNumber (d + 2) x3 h3) fun x4 h4 => ?_
      exact gk_aret (pc := 91) rfl d_Su_ofRow_91 rfl (Or.inl ⟨_, rfl⟩)
    ·
      refine gk_ite (fun z1_2 => ?_) (fun z1_2 => ?_)
      · refine gk_tsw_in (pc := 1) (2 : Int32) 92 d_Su_ofRow_1 z1_2 (by decide) (by decide) rfl rfl ?_
        refine gk_aload_n (pc := 92) 1 d_Su_ofRow_92 rfl ?_
        refine gk_dconst0 (pc := 93) d_Su_ofRow_93 ?_
        refine gk_callS (pc := 94) (d := (d + 4)) (w' := gv_D) (as := [va_rf a1, .double (0x0000000000000000)]) (n := 2) d_Su_ofRow_94 rfl rfl (Nat.le_of_ble_eq_true rfl) tw_1213 tw_1214 tw_119 cw_Su_sumOfSquares hy_Su_sumOfSquares (Nat.le_of_ble_eq_true rfl) (p_Su_sumOfSquares (d + 3) a1 (0x0000000000000000) h) fun x5 h5 => ?_
        refine gk_callS (pc := 97) (d := (d + 4)) (w' := gv_R) (as := [.double x5]) (n := 1) d_Su_ofRow_97 rfl rfl (Nat.le_of_ble_eq_true rfl) tw_1047 tw_317 tw_97 cw_Va_ofNumber hy_Va_ofNumber (Nat.le_of_ble_eq_true rfl) (p_Va_ofNumber (d + 2) x5 h5) fun x6 h6 => ?_
        exact gk_aret (pc := 100) rfl d_Su_ofRow_100 rfl (Or.inl ⟨_, rfl⟩)
      ·
        refine gk_ite (fun z1_3 => ?_) (fun z1_3 => ?_)
        · refine gk_tsw_in (pc := 1) (3 : Int32) 101 d_Su_ofRow_1 z1_3 (by decide) (by decide) rfl rfl ?_
          refine gk_aload_n (pc := 101) 1 d_Su_ofRow_101 rfl ?_
          refine gk_callS (pc := 102) (d := (d + 4)) (w' := gv_R) (as := [va_rf a1]) (n := 1) d_Su_ofRow_102 rfl rfl (Nat.le_of_ble_eq_true rfl) tw_1216 tw_1217 tw_119 cw_Su_average hy_Su_average (Nat.le_of_ble_eq_true rfl) (p_Su_average (d + 1) a1 h) fun x7 h7 => ?_
          exact gk_aret (pc := 105) rfl d_Su_ofRow_105 rfl (Or.inl ⟨_, rfl⟩)
        ·
          refine gk_ite (fun z1_4 => ?_) (fun z1_4 => ?_)
          · refine gk_tsw_in (pc := 1) (4 : Int32) 106 d_Su_ofRow_1 z1_4 (by decide) (by decide) rfl rfl ?_
            exact p_Su_ofRow_b106 d a0 a1 h
          ·
            refine gk_ite (fun z1_5 => ?_) (fun z1_5 => ?_)
            · refine gk_tsw_in (pc := 1) (5 : Int32) 106 d_Su_ofRow_1 z1_5 (by decide) (by decide) rfl rfl ?_
              exact p_Su_ofRow_b106 d a0 a1 h
            ·
              refine gk_ite (fun z1_6 => ?_) (fun z1_6 => ?_)
              · refine gk_tsw_in (pc := 1) (6 : Int32) 149 d_Su_ofRow_1 z1_6 (by decide) (by decide) rfl rfl ?_
                refine gk_weak [] (L' := []) rfl ?_
                exact p_Su_ofRow_b149 d h
              ·
                refine gk_ite (fun z1_7 => ?_) (fun z1_7 => ?_)
                · refine gk_tsw_in (pc := 1) (7 : Int32) 149 d_Su_ofRow_1 z1_7 (by decide) (by decide) rfl rfl ?_
                  refine gk_weak [] (L' := []) rfl ?_
                  exact p_Su_ofRow_b149 d h
                ·
                  refine gk_ite (fun z1_8 => ?_) (fun z1_8 => ?_)
                  · refine gk_tsw_in (pc := 1) (8 : Int32) 149 d_Su_ofRow_1 z1_8 (by decide) (by decide) rfl rfl ?_
                    refine gk_weak [] (L' := []) rfl ?_
                    exact p_Su_ofRow_b149 d h
                  ·
                    refine gk_ite (fun z1_9 => ?_) (fun z1_9 => ?_)
                    · refine gk_tsw_in (pc := 1) (9 : Int32) 124 d_Su_ofRow_1 z1_9 (by decide) (by decide) rfl rfl ?_
                      refine gk_aload_n (pc := 124) 1 d_Su_ofRow_124 rfl ?_
                      refine gk_callS (pc := 125) (d := (d + 4)) (w' := gv_R) (as := [va_rf a1]) (n := 1) d_Su_ofRow_125 rfl rfl (Nat.le_of_ble_eq_true rfl) tw_1222 tw_1223 tw_119 cw_Su_median hy_Su_median (Nat.le_of_ble_eq_true rfl) (p_Su_median (d + 1) a1 h) fun x8 h8 => ?_
                      exact gk_aret (pc := 128) rfl d_Su_ofRow_128 rfl (Or.inl ⟨_, rfl⟩)
                    ·
                      refine gk_ite (fun z1_10 => ?_) (fun z1_10 => ?_)
                      · refine gk_tsw_in (pc := 1) (10 : Int32) 149 d_Su_ofRow_1 z1_10 (by decide) (by decide) rfl rfl ?_
                        refine gk_weak [] (L' := []) rfl ?_
                        exact p_Su_ofRow_b149 d h
                      ·
                        refine gk_ite (fun z1_11 => ?_) (fun z1_11 => ?_)
                        · refine gk_tsw_in (pc := 1) (11 : Int32) 149 d_Su_ofRow_1 z1_11 (by decide) (by decide) rfl rfl ?_
                          refine gk_weak [] (L' := []) rfl ?_
                          exact p_Su_ofRow_b149 d h
                        ·
                          refine gk_ite (fun z1_12 => ?_) (fun z1_12 => ?_)
                          · refine gk_tsw_in (pc := 1) (12 : Int32) 149 d_Su_ofRow_1 z1_12 (by decide) (by decide) rfl rfl ?_
                            refine gk_weak [] (L' := []) rfl ?_
                            exact p_Su_ofRow_b149 d h
                          ·
                            refine gk_ite (fun z1_13 => ?_) (fun z1_13 => ?_)
                            · refine gk_tsw_in (pc := 1) (13 : Int32) 129 d_Su_ofRow_1 z1_13 (by decide) (by decide) rfl rfl ?_
                              refine gk_aload_n (pc := 129) 1 d_Su_ofRow_129 rfl ?_
                              refine gk_aload_n (pc := 130) 1 d_Su_ofRow_130 rfl ?_
                              refine gk_callV (pc := 131) (d := (d + 4)) (w' := gv_I) (as := []) (n := 0) 4 d_Su_ofRow_131 rfl rfl rfl rfl (by simp [gk_cat_rf, gk_catI, gk_catJ, gk_catD, gv_V, gv_I, gv_J, gv_D, gv_R]) tw_1070 tw_1071 tw_1072 tw_96 cw_Ar_inRow hy_Ar_inRow (Nat.le_of_ble_eq_true rfl) (p_Ar_inRow (d + 4) a1 h) fun x9 h9 => ?_
                              refine gk_callS (pc := 134) (d := (d + 4)) (w' := gv_R) (as := [va_rf a1, .int x9]) (n := 2) d_Su_ofRow_134 rfl rfl (Nat.le_of_ble_eq_true rfl) tw_1226 tw_1227 tw_119 cw_Su_variance hy_Su_variance (Nat.le_of_ble_eq_true rfl) (p_Su_variance d a1 x9 h9) fun x10 h10 => ?_
                              exact gk_aret (pc := 137) rfl d_Su_ofRow_137 rfl (Or.inl ⟨_, rfl⟩)
                            ·
                              refine gk_ite (fun z1_14 => ?_) (fun z1_14 => ?_)
                              · refine gk_tsw_in (pc := 1) (14 : Int32) 138 d_Su_ofRow_1 z1_14 (by decide) (by decide) rfl rfl ?_
                                refine gk_aload_n (pc := 138) 1 d_Su_ofRow_138 rfl ?_
                                refine gk_aload_n (pc := 139) 1 d_Su_ofRow_139 rfl ?_
                                refine gk_callV (pc := 140) (d := (d + 4)) (w' := gv_I) (as := []) (n := 0) 4 d_Su_ofRow_140 rfl rfl rfl rfl (by simp [gk_cat_rf, gk_catI, gk_catJ, gk_catD, gv_V, gv_I, gv_J, gv_D, gv_R]) tw_1070 tw_1071 tw_1072 tw_96 cw_Ar_inRow hy_Ar_inRow (Nat.le_of_ble_eq_true rfl) (p_Ar_inRow (d + 4) a1 h) fun x11 h11 => ?_
                                refine gk_iconst (pc := 143) (1 : Int32) d_Su_ofRow_143 rfl ?_
                                refine gk_isub (pc := 144) d_Su_ofRow_144 ?_
                                refine gk_callS (pc := 145) (d := (d + 4)) (w' := gv_R) (as := [va_rf a1, .int (x11 - (1 : Int32))]) (n := 2) d_Su_ofRow_145 rfl rfl (Nat.le_of_ble_eq_true rfl) tw_1226 tw_1227 tw_119 cw_Su_variance hy_Su_variance (Nat.le_of_ble_eq_true rfl) (p_Su_variance d a1 (x11 - (1 : Int32)) h11) fun x12 h12 => ?_
                                exact gk_aret (pc := 148) rfl d_Su_ofRow_148 rfl (Or.inl ⟨_, rfl⟩)
                              ·
                                refine gk_tsw_out (pc := 1) 149 d_Su_ofRow_1 (by have e0 := gk_neT z1_0 (by decide : (0 : Int32).toInt = 0); have e1 := gk_neT z1_1 (by decide : (1 : Int32).toInt = 1); have e2 := gk_neT z1_2 (by decide : (2 : Int32).toInt = 2); have e3 := gk_neT z1_3 (by decide : (3 : Int32).toInt = 3); have e4 := gk_neT z1_4 (by decide : (4 : Int32).toInt = 4); have e5 := gk_neT z1_5 (by decide : (5 : Int32).toInt = 5); have e6 := gk_neT z1_6 (by decide : (6 : Int32).toInt = 6); have e7 := gk_neT z1_7 (by decide : (7 : Int32).toInt = 7); have e8 := gk_neT z1_8 (by decide : (8 : Int32).toInt = 8); have e9 := gk_neT z1_9 (by decide : (9 : Int32).toInt = 9); have e10 := gk_neT z1_10 (by decide : (10 : Int32).toInt = 10); have e11 := gk_neT z1_11 (by decide : (11 : Int32).toInt = 11); have e12 := gk_neT z1_12 (by decide : (12 : Int32).toInt = 12); have e13 := gk_neT z1_13 (by decide : (13 : Int32).toInt = 13); have e14 := gk_neT z1_14 (by decide : (14 : Int32).toInt = 14); omega) rfl ?_
                                refine gk_weak [] (L' := []) rfl ?_
                                exact p_Su_ofRow_b149 d h
theorem p_Su_ofRow (d : Nat) (a0 : Int32) (a1 : Option Nat) (h : gk_H) : ∀ r h1, f_Su_ofRow a0 a1 h = some (r, h1) → gk_M (d + 5) y_Su_ofRow b_Su_ofRow 2 (some (.object "ValueAlgebra$Value")) [.int a0, va_rf a1] h (.inl (gv_R r)) h1 :=
  fun r h1 e => gk_M_of2 (by decide +kernel) (by simp [lv_args, gk_cat_rf, gk_catI, gk_catJ, gk_catD, gv_V, gv_I, gv_J, gv_D, gv_R]) (by simp [lg_sl, gk_cat_rf, gk_catI, gk_catJ, gk_catD, gv_V, gv_I, gv_J, gv_D, gv_R]) (w_Su_ofRow d a0 a1 h r h1 e)
theorem d_Su_answer_0 : decode b_Su_answer 0 = .ok (.iload_n 0, 1) := by decide +kernel
theorem d_Su_answer_1 : decode b_Su_answer 1 = .ok (.tableswitch 95 6 18 #[67, 67, 67, 95, 73, 73, 79, 95, 95, 84, 89, 89, 89], 67) := by decide +kernel
theorem d_Su_answer_68 : decode b_Su_answer 68 = .ok (.iload_n 0, 1) := by decide +kernel
theorem d_Su_answer_69 : decode b_Su_answer 69 = .ok (.aload_n 1, 1) := by decide +kernel
theorem d_Su_answer_70 : decode b_Su_answer 70 = .ok (.invokestatic 7, 3) := by decide +kernel
theorem d_Su_answer_73 : decode b_Su_answer 73 = .ok (.areturn, 1) := by decide +kernel
theorem d_Su_answer_74 : decode b_Su_answer 74 = .ok (.iload_n 0, 1) := by decide +kernel
theorem d_Su_answer_75 : decode b_Su_answer 75 = .ok (.aload_n 1, 1) := by decide +kernel
theorem d_Su_answer_76 : decode b_Su_answer 76 = .ok (.invokestatic 13, 3) := by decide +kernel
theorem d_Su_answer_79 : decode b_Su_answer 79 = .ok (.areturn, 1) := by decide +kernel
theorem d_Su_answer_80 : decode b_Su_answer 80 = .ok (.aload_n 1, 1) := by decide +kernel
theorem d_Su_answer_81 : decode b_Su_answer 81 = .ok (.invokestatic 16, 3) := by decide +kernel
theorem d_Su_answer_84 : decode b_Su_answer 84 = .ok (.areturn, 1) := by decide +kernel
theorem d_Su_answer_85 : decode b_Su_answer 85 = .ok (.aload_n 1, 1) := by decide +kernel
theorem d_Su_answer_86 : decode b_Su_answer 86 = .ok (.invokestatic 20, 3) := by decide +kernel
theorem d_Su_answer_89 : decode b_Su_answer 89 = .ok (.areturn, 1) := by decide +kernel
theorem d_Su_answer_90 : decode b_Su_answer 90 = .ok (.iload_n 0, 1) := by decide +kernel
theorem d_Su_answer_91 : decode b_Su_answer 91 = .ok (.aload_n 1, 1) := by decide +kernel
theorem d_Su_answer_92 : decode b_Su_answer 92 = .ok (.invokestatic 23, 3) := by decide +kernel
theorem d_Su_answer_95 : decode b_Su_answer 95 = .ok (.areturn, 1) := by decide +kernel
theorem d_Su_answer_96 : decode b_Su_answer 96 = .ok (.aload_n 1, 1) := by decide +kernel
theorem d_Su_answer_97 : decode b_Su_answer 97 = .ok (.invokevirtual 26, 3) := by decide +kernel
theorem d_Su_answer_100 : decode b_Su_answer 100 = .ok (.iload_n 0, 1) := by decide +kernel
theorem d_Su_answer_101 : decode b_Su_answer 101 = .ok (.aload_n 1, 1) := by decide +kernel
theorem d_Su_answer_102 : decode b_Su_answer 102 = .ok (.invokestatic 31, 3) := by decide +kernel
theorem d_Su_answer_105 : decode b_Su_answer 105 = .ok (.areturn, 1) := by decide +kernel
theorem p_Su_answer_b96 (d : Nat)  (v0 : Int32) (v1 : Option Nat) (h : gk_H) : gk_P gw_R (d + 9) y_Su_answer b_Su_answer 2 (some (.object "ValueAlgebra$Value")) [] (f_Su_answer_b96  v0 v1 h) 96 [(0, .int v0), (1, va_rf v1)] [] h := by
  unfold f_Su_answer_b96
  refine gk_aload_n (pc := 96) 1 d_Su_answer_96 rfl ?_
  refine gk_callV (pc := 97) (d := (d + 8)) (w' := gv_V) (as := []) (n := 0) 4 d_Su_answer_97 rfl rfl rfl rfl (Nat.le_of_ble_eq_true rfl) tw_1199 tw_1200 tw_1201 tw_96 cw_Ar_gather hy_Ar_gather (Nat.le_of_ble_eq_true rfl) (p_Ar_gather (d + 1) v1 h) fun _ h1 => ?_
  refine gk_iload_n (pc := 100) 0 d_Su_answer_100 rfl ?_
  refine gk_aload_n (pc := 101) 1 d_Su_answer_101 rfl ?_
  refine gk_callS (pc := 102) (d := (d + 8)) (w' := gv_R) (as := [.int v0, va_rf v1]) (n := 2) d_Su_answer_102 rfl rfl (Nat.le_of_ble_eq_true rfl) tw_1204 tw_1205 tw_119 cw_Su_ofRow hy_Su_ofRow (Nat.le_of_ble_eq_true rfl) (p_Su_ofRow (d + 3) v0 v1 h1) fun x1 h2 => ?_
  exact gk_aret (pc := 105) rfl d_Su_answer_105 rfl (Or.inl ⟨_, rfl⟩)
theorem p_Su_answer_b68 (d : Nat)  (v0 : Int32) (v1 : Option Nat) (h : gk_H) : gk_P gw_R (d + 9) y_Su_answer b_Su_answer 2 (some (.object "ValueAlgebra$Value")) [] (f_Su_answer_b68  v0 v1 h) 68 [(0, .int v0), (1, va_rf v1)] [] h := by
  unfold f_Su_answer_b68
  refine gk_iload_n (pc := 68) 0 d_Su_answer_68 rfl ?_
  refine gk_aload_n (pc := 69) 1 d_Su_answer_69 rfl ?_
  refine gk_callS (pc := 70) (d := (d + 8)) (w' := gv_R) (as := [.int v0, va_rf v1]) (n := 2) d_Su_answer_70 rfl rfl (Nat.le_of_ble_eq_true rfl) tw_1026 tw_1027 tw_119 cw_Su_counted hy_Su_counted (Nat.le_of_ble_eq_true rfl) (p_Su_counted (d + 1) v0 v1 h) fun x1 h1 => ?_
  exact gk_aret (pc := 73) rfl d_Su_answer_73 rfl (Or.inl ⟨_, rfl⟩)
theorem p_Su_answer_b74 (d : Nat)  (v0 : Int32) (v1 : Option Nat) (h : gk_H) : gk_P gw_R (d + 9) y_Su_answer b_Su_answer 2 (some (.object "ValueAlgebra$Value")) [] (f_Su_answer_b74  v0 v1 h) 74 [(0, .int v0), (1, va_rf v1)] [] h := by
  unfold f_Su_answer_b74
  refine gk_iload_n (pc := 74) 0 d_Su_answer_74 rfl ?_
  refine gk_aload_n (pc := 75) 1 d_Su_answer_75 rfl ?_
  refine gk_callS (pc := 76) (d := (d + 8)) (w' := gv_R) (as := [.int v0, va_rf v1]) (n := 2) d_Su_answer_76 rfl rfl (Nat.le_of_ble_eq_true rfl) tw_1048 tw_1049 tw_119 cw_Su_atRank hy_Su_atRank (Nat.le_of_ble_eq_true rfl) (p_Su_atRank d v0 v1 h) fun x1 h1 => ?_
  exact gk_aret (pc := 79) rfl d_Su_answer_79 rfl (Or.inl ⟨_, rfl⟩)
theorem p_Su_answer_b90 (d : Nat)  (v0 : Int32) (v1 : Option Nat) (h : gk_H) : gk_P gw_R (d + 9) y_Su_answer b_Su_answer 2 (some (.object "ValueAlgebra$Value")) [] (f_Su_answer_b90  v0 v1 h) 90 [(0, .int v0), (1, va_rf v1)] [] h := by
  unfold f_Su_answer_b90
  refine gk_iload_n (pc := 90) 0 d_Su_answer_90 rfl ?_
  refine gk_aload_n (pc := 91) 1 d_Su_answer_91 rfl ?_
  refine gk_callS (pc := 92) (d := (d + 8)) (w' := gv_R) (as := [.int v0, va_rf v1]) (n := 2) d_Su_answer_92 rfl rfl (Nat.le_of_ble_eq_true rfl) tw_1099 tw_1100 tw_119 cw_Su_ofThoseMeeting hy_Su_ofThoseMeeting (Nat.le_of_ble_eq_true rfl) (p_Su_ofThoseMeeting d v0 v1 h) fun x1 h1 => ?_
  exact gk_aret (pc := 95) rfl d_Su_answer_95 rfl (Or.inl ⟨_, rfl⟩)
theorem w_Su_answer (d : Nat) (a0 : Int32) (a1 : Option Nat) (h : gk_H) : gk_P gw_R (d + 9) y_Su_answer b_Su_answer 2 (some (.object "ValueAlgebra$Value")) [] (f_Su_answer a0 a1 h) 0 [(0, .int a0), (1, va_rf a1)] [] h := by
  unfold f_Su_answer
  refine gk_iload_n (pc := 0) 0 d_Su_answer_0 rfl ?_
  refine gk_ite (fun z1_0 => ?_) (fun z1_0 => ?_)
  · refine gk_tsw_in (pc := 1) (6 : Int32) 68 d_Su_answer_1 z1_0 (by decide) (by decide) rfl rfl ?_
    exact p_Su_answer_b68 d a0 a1 h
  ·
    refine gk_ite (fun z1_1 => ?_) (fun z1_1 => ?_)
    · refine gk_tsw_in (pc := 1) (7 : Int32) 68 d_Su_answer_1 z1_1 (by decide) (by decide) rfl rfl ?_
      exact p_Su_answer_b68 d a0 a1 h
    ·
      refine gk_ite (fun z1_2 => ?_) (fun z1_2 => ?_)
      · refine gk_tsw_in (pc := 1) (8 : Int32) 68 d_Su_answer_1 z1_2 (by decide) (by decide) rfl rfl ?_
        exact p_Su_answer_b68 d a0 a1 h
      ·
        refine gk_ite (fun z1_3 => ?_) (fun z1_3 => ?_)
        · refine gk_tsw_in (pc := 1) (9 : Int32) 96 d_Su_answer_1 z1_3 (by decide) (by decide) rfl rfl ?_
          exact p_Su_answer_b96 d a0 a1 h
        ·
          refine gk_ite (fun z1_4 => ?_) (fun z1_4 => ?_)
          · refine gk_tsw_in (pc := 1) (10 : Int32) 74 d_Su_answer_1 z1_4 (by decide) (by decide) rfl rfl ?_
            exact p_Su_answer_b74 d a0 a1 h
          ·
            refine gk_ite (fun z1_5 => ?_) (fun z1_5 => ?_)
            · refine gk_tsw_in (pc := 1) (11 : Int32) 74 d_Su_answer_1 z1_5 (by decide) (by decide) rfl rfl ?_
              exact p_Su_answer_b74 d a0 a1 h
            ·
              refine gk_ite (fun z1_6 => ?_) (fun z1_6 => ?_)
              · refine gk_tsw_in (pc := 1) (12 : Int32) 80 d_Su_answer_1 z1_6 (by decide) (by decide) rfl rfl ?_
                refine gk_aload_n (pc := 80) 1 d_Su_answer_80 rfl ?_
                refine gk_callS (pc := 81) (d := (d + 8)) (w' := gv_R) (as := [va_rf a1]) (n := 1) d_Su_answer_81 rfl rfl (Nat.le_of_ble_eq_true rfl) tw_1083 tw_1084 tw_119 cw_Su_rank hy_Su_rank (Nat.le_of_ble_eq_true rfl) (p_Su_rank (d + 1) a1 h) fun x1 h1 => ?_
                exact gk_aret (pc := 84) rfl d_Su_answer_84 rfl (Or.inl ⟨_, rfl⟩)
              ·
                refine gk_ite (fun z1_7 => ?_) (fun z1_7 => ?_)
                · refine gk_tsw_in (pc := 1) (13 : Int32) 96 d_Su_answer_1 z1_7 (by decide) (by decide) rfl rfl ?_
                  exact p_Su_answer_b96 d a0 a1 h
                ·
                  refine gk_ite (fun z1_8 => ?_) (fun z1_8 => ?_)
                  · refine gk_tsw_in (pc := 1) (14 : Int32) 96 d_Su_answer_1 z1_8 (by decide) (by decide) rfl rfl ?_
                    exact p_Su_answer_b96 d a0 a1 h
                  ·
                    refine gk_ite (fun z1_9 => ?_) (fun z1_9 => ?_)
                    · refine gk_tsw_in (pc := 1) (15 : Int32) 85 d_Su_answer_1 z1_9 (by decide) (by decide) rfl rfl ?_
                      refine gk_aload_n (pc := 85) 1 d_Su_answer_85 rfl ?_
                      refine gk_callS (pc := 86) (d := (d + 8)) (w' := gv_R) (as := [va_rf a1]) (n := 1) d_Su_answer_86 rfl rfl (Nat.le_of_ble_eq_true rfl) tw_1087 tw_1088 tw_119 cw_Su_sumOfProducts hy_Su_sumOfProducts (Nat.le_of_ble_eq_true rfl) (p_Su_sumOfProducts (d + 5) a1 h) fun x2 h2 => ?_
                      exact gk_aret (pc := 89) rfl d_Su_answer_89 rfl (Or.inl ⟨_, rfl⟩)
                    ·
                      refine gk_ite (fun z1_10 => ?_) (fun z1_10 => ?_)
                      · refine gk_tsw_in (pc := 1) (16 : Int32) 90 d_Su_answer_1 z1_10 (by decide) (by decide) rfl rfl ?_
                        exact p_Su_answer_b90 d a0 a1 h
                      ·
                        refine gk_ite (fun z1_11 => ?_) (fun z1_11 => ?_)
                        · refine gk_tsw_in (pc := 1) (17 : Int32) 90 d_Su_answer_1 z1_11 (by decide) (by decide) rfl rfl ?_
                          exact p_Su_answer_b90 d a0 a1 h
                        ·
                          refine gk_ite (fun z1_12 => ?_) (fun z1_12 => ?_)
                          · refine gk_tsw_in (pc := 1) (18 : Int32) 90 d_Su_answer_1 z1_12 (by decide) (by decide) rfl rfl ?_
                            exact p_Su_answer_b90 d a0 a1 h
                          ·
                            refine gk_tsw_out (pc := 1) 96 d_Su_answer_1 (by have e0 := gk_neT z1_0 (by decide : (6 : Int32).toInt = 6); have e1 := gk_neT z1_1 (by decide : (7 : Int32).toInt = 7); have e2 := gk_neT z1_2 (by decide : (8 : Int32).toInt = 8); have e3 := gk_neT z1_3 (by decide : (9 : Int32).toInt = 9); have e4 := gk_neT z1_4 (by decide : (10 : Int32).toInt = 10); have e5 := gk_neT z1_5 (by decide : (11 : Int32).toInt = 11); have e6 := gk_neT z1_6 (by decide : (12 : Int32).toInt = 12); have e7 := gk_neT z1_7 (by decide : (13 : Int32).toInt = 13); have e8 := gk_neT z1_8 (by decide : (14 : Int32).toInt = 14); have e9 := gk_neT z1_9 (by decide : (15 : Int32).toInt = 15); have e10 := gk_neT z1_10 (by decide : (16 : Int32).toInt = 16); have e11 := gk_neT z1_11 (by decide : (17 : Int32).toInt = 17); have e12 := gk_neT z1_12 (by decide : (18 : Int32).toInt = 18); omega) rfl ?_
                            exact p_Su_answer_b96 d a0 a1 h
theorem p_Su_answer (d : Nat) (a0 : Int32) (a1 : Option Nat) (h : gk_H) : ∀ r h1, f_Su_answer a0 a1 h = some (r, h1) → gk_M (d + 9) y_Su_answer b_Su_answer 2 (some (.object "ValueAlgebra$Value")) [.int a0, va_rf a1] h (.inl (gv_R r)) h1 :=
  fun r h1 e => gk_M_of2 (by decide +kernel) (by simp [lv_args, gk_cat_rf, gk_catI, gk_catJ, gk_catD, gv_V, gv_I, gv_J, gv_D, gv_R]) (by simp [lg_sl, gk_cat_rf, gk_catI, gk_catJ, gk_catD, gv_V, gv_I, gv_J, gv_D, gv_R]) (w_Su_answer d a0 a1 h r h1 e)
theorem d_Ar_wholeOr_0 : decode b_Ar_wholeOr 0 = .ok (.iload_n 1, 1) := by decide +kernel
theorem d_Ar_wholeOr_1 : decode b_Ar_wholeOr 1 = .ok (.aload_n 0, 1) := by decide +kernel
theorem d_Ar_wholeOr_2 : decode b_Ar_wholeOr 2 = .ok (.getfield 46, 3) := by decide +kernel
theorem d_Ar_wholeOr_5 : decode b_Ar_wholeOr 5 = .ok (.if_icmp .ge 11, 3) := by decide +kernel
theorem d_Ar_wholeOr_8 : decode b_Ar_wholeOr 8 = .ok (.aload_n 0, 1) := by decide +kernel
theorem d_Ar_wholeOr_9 : decode b_Ar_wholeOr 9 = .ok (.iload_n 1, 1) := by decide +kernel
theorem d_Ar_wholeOr_10 : decode b_Ar_wholeOr 10 = .ok (.invokevirtual 106, 3) := by decide +kernel
theorem d_Ar_wholeOr_13 : decode b_Ar_wholeOr 13 = .ok (.goto 4, 3) := by decide +kernel
theorem d_Ar_wholeOr_16 : decode b_Ar_wholeOr 16 = .ok (.lload_n 2, 1) := by decide +kernel
theorem d_Ar_wholeOr_17 : decode b_Ar_wholeOr 17 = .ok (.lreturn, 1) := by decide +kernel
theorem p_Ar_wholeOr_b17 (d : Nat)  (s0 : Int64) (h : gk_H) : gk_P gw_J (d + 8) y_Ar_wholeOr b_Ar_wholeOr 4 (some .long) [] (f_Ar_wholeOr_b17  s0 h) 17 [] [.long s0] h := by
  unfold f_Ar_wholeOr_b17
  exact gk_lret (pc := 17) rfl d_Ar_wholeOr_17 rfl
theorem w_Ar_wholeOr (d : Nat) (a0 : Option Nat) (a1 : Int32) (a2 : Int64) (h : gk_H) : gk_P gw_J (d + 8) y_Ar_wholeOr b_Ar_wholeOr 4 (some .long) [] (f_Ar_wholeOr a0 a1 a2 h) 0 [(0, va_rf a0), (1, .int a1), (2, .long a2)] [] h := by
  unfold f_Ar_wholeOr
  refine gk_iload_n (pc := 0) 1 d_Ar_wholeOr_0 rfl ?_
  refine gk_aload_n (pc := 1) 0 d_Ar_wholeOr_1 rfl ?_
  refine gk_getI (pc := 2) 4 2 d_Ar_wholeOr_2 rfl (Nat.le_of_ble_eq_true rfl) tw_262 fun x1 => ?_
  refine gk_icmp_ge (pc := 5) 16 d_Ar_wholeOr_5 rfl (fun _ => ?_) (fun _ => ?_)
  · refine gk_lload_n (pc := 16) 2 d_Ar_wholeOr_16 rfl ?_
    refine gk_weak [] (L' := []) rfl ?_
    exact p_Ar_wholeOr_b17 d a2 h
  · refine gk_aload_n (pc := 8) 0 d_Ar_wholeOr_8 rfl ?_
    refine gk_iload_n (pc := 9) 1 d_Ar_wholeOr_9 rfl ?_
    refine gk_callV (pc := 10) (d := (d + 7)) (w' := gv_J) (as := [.int a1]) (n := 1) 4 d_Ar_wholeOr_10 rfl rfl rfl rfl (Nat.le_of_ble_eq_true rfl) tw_1289 tw_1065 tw_1066 tw_96 cw_Ar_whole hy_Ar_whole (Nat.le_of_ble_eq_true rfl) (p_Ar_whole d a0 a1 h) fun x2 h1 => ?_
    refine gk_goto (pc := 13) 17 d_Ar_wholeOr_13 rfl ?_
    refine gk_weak [] (L' := []) rfl ?_
    exact p_Ar_wholeOr_b17 d x2 h1
theorem p_Ar_wholeOr (d : Nat) (a0 : Option Nat) (a1 : Int32) (a2 : Int64) (h : gk_H) : ∀ r h1, f_Ar_wholeOr a0 a1 a2 h = some (r, h1) → gk_M (d + 8) y_Ar_wholeOr b_Ar_wholeOr 4 (some .long) [va_rf a0, .int a1, .long a2] h (.inl (gv_J r)) h1 :=
  fun r h1 e => gk_M_of2 (by decide +kernel) (by simp [lv_args, gk_cat_rf, gk_catI, gk_catJ, gk_catD, gv_V, gv_I, gv_J, gv_D, gv_R]) (by simp [lg_sl, gk_cat_rf, gk_catI, gk_catJ, gk_catD, gv_V, gv_I, gv_J, gv_D, gv_R]) (w_Ar_wholeOr d a0 a1 a2 h r h1 e)
theorem d_Am_toPlaces_0 : decode b_Am_toPlaces 0 = .ok (.lload_n 2, 1) := by decide +kernel
theorem d_Am_toPlaces_1 : decode b_Am_toPlaces 1 = .ok (.ldc2_w 135, 3) := by decide +kernel
theorem d_Am_toPlaces_4 : decode b_Am_toPlaces 4 = .ok (.lcmp, 1) := by decide +kernel
theorem d_Am_toPlaces_5 : decode b_Am_toPlaces 5 = .ok (.ifCond .lt 11, 3) := by decide +kernel
theorem d_Am_toPlaces_8 : decode b_Am_toPlaces 8 = .ok (.lload_n 2, 1) := by decide +kernel
theorem d_Am_toPlaces_9 : decode b_Am_toPlaces 9 = .ok (.ldc2_w 137, 3) := by decide +kernel
theorem d_Am_toPlaces_12 : decode b_Am_toPlaces 12 = .ok (.lcmp, 1) := by decide +kernel
theorem d_Am_toPlaces_13 : decode b_Am_toPlaces 13 = .ok (.ifCond .le 9, 3) := by decide +kernel
theorem d_Am_toPlaces_16 : decode b_Am_toPlaces 16 = .ok (.bipush 6, 2) := by decide +kernel
theorem d_Am_toPlaces_18 : decode b_Am_toPlaces 18 = .ok (.invokestatic 80, 3) := by decide +kernel
theorem d_Am_toPlaces_21 : decode b_Am_toPlaces 21 = .ok (.areturn, 1) := by decide +kernel
theorem d_Am_toPlaces_22 : decode b_Am_toPlaces 22 = .ok (.lload_n 2, 1) := by decide +kernel
theorem d_Am_toPlaces_23 : decode b_Am_toPlaces 23 = .ok (.lconst 0, 1) := by decide +kernel
theorem d_Am_toPlaces_24 : decode b_Am_toPlaces 24 = .ok (.lcmp, 1) := by decide +kernel
theorem d_Am_toPlaces_25 : decode b_Am_toPlaces 25 = .ok (.ifCond .ge 8, 3) := by decide +kernel
theorem d_Am_toPlaces_28 : decode b_Am_toPlaces 28 = .ok (.lload_n 2, 1) := by decide +kernel
theorem d_Am_toPlaces_29 : decode b_Am_toPlaces 29 = .ok (.lneg, 1) := by decide +kernel
theorem d_Am_toPlaces_30 : decode b_Am_toPlaces 30 = .ok (.goto 4, 3) := by decide +kernel
theorem d_Am_toPlaces_33 : decode b_Am_toPlaces 33 = .ok (.lload_n 2, 1) := by decide +kernel
theorem d_Am_toPlaces_34 : decode b_Am_toPlaces 34 = .ok (.invokestatic 139, 3) := by decide +kernel
theorem d_Am_toPlaces_37 : decode b_Am_toPlaces 37 = .ok (.dstore 6, 2) := by decide +kernel
theorem d_Am_toPlaces_39 : decode b_Am_toPlaces 39 = .ok (.lload_n 2, 1) := by decide +kernel
theorem d_Am_toPlaces_40 : decode b_Am_toPlaces 40 = .ok (.lconst 0, 1) := by decide +kernel
theorem d_Am_toPlaces_41 : decode b_Am_toPlaces 41 = .ok (.lcmp, 1) := by decide +kernel
theorem d_Am_toPlaces_42 : decode b_Am_toPlaces 42 = .ok (.ifCond .ge 13, 3) := by decide +kernel
theorem d_Am_toPlaces_45 : decode b_Am_toPlaces 45 = .ok (.dload_n 0, 1) := by decide +kernel
theorem d_Am_toPlaces_46 : decode b_Am_toPlaces 46 = .ok (.invokestatic 13, 3) := by decide +kernel
theorem d_Am_toPlaces_49 : decode b_Am_toPlaces 49 = .ok (.dload 6, 2) := by decide +kernel
theorem d_Am_toPlaces_51 : decode b_Am_toPlaces 51 = .ok (.ddiv, 1) := by decide +kernel
theorem d_Am_toPlaces_52 : decode b_Am_toPlaces 52 = .ok (.goto 10, 3) := by decide +kernel
theorem d_Am_toPlaces_55 : decode b_Am_toPlaces 55 = .ok (.dload_n 0, 1) := by decide +kernel
theorem d_Am_toPlaces_56 : decode b_Am_toPlaces 56 = .ok (.invokestatic 13, 3) := by decide +kernel
theorem d_Am_toPlaces_59 : decode b_Am_toPlaces 59 = .ok (.dload 6, 2) := by decide +kernel
theorem d_Am_toPlaces_61 : decode b_Am_toPlaces 61 = .ok (.dmul, 1) := by decide +kernel
theorem d_Am_toPlaces_62 : decode b_Am_toPlaces 62 = .ok (.dstore 8, 2) := by decide +kernel
theorem d_Am_toPlaces_64 : decode b_Am_toPlaces 64 = .ok (.dload 8, 2) := by decide +kernel
theorem d_Am_toPlaces_66 : decode b_Am_toPlaces 66 = .ok (.invokestatic 105, 3) := by decide +kernel
theorem d_Am_toPlaces_69 : decode b_Am_toPlaces 69 = .ok (.ifCond .ne 9, 3) := by decide +kernel
theorem d_Am_toPlaces_72 : decode b_Am_toPlaces 72 = .ok (.bipush 6, 2) := by decide +kernel
theorem d_Am_toPlaces_74 : decode b_Am_toPlaces 74 = .ok (.invokestatic 80, 3) := by decide +kernel
theorem d_Am_toPlaces_77 : decode b_Am_toPlaces 77 = .ok (.areturn, 1) := by decide +kernel
theorem d_Am_toPlaces_78 : decode b_Am_toPlaces 78 = .ok (.dload 8, 2) := by decide +kernel
theorem d_Am_toPlaces_80 : decode b_Am_toPlaces 80 = .ok (.dload 4, 2) := by decide +kernel
theorem d_Am_toPlaces_82 : decode b_Am_toPlaces 82 = .ok (.dadd, 1) := by decide +kernel
theorem d_Am_toPlaces_83 : decode b_Am_toPlaces 83 = .ok (.invokestatic 92, 3) := by decide +kernel
theorem d_Am_toPlaces_86 : decode b_Am_toPlaces 86 = .ok (.dstore 10, 2) := by decide +kernel
theorem d_Am_toPlaces_88 : decode b_Am_toPlaces 88 = .ok (.lload_n 2, 1) := by decide +kernel
theorem d_Am_toPlaces_89 : decode b_Am_toPlaces 89 = .ok (.lconst 0, 1) := by decide +kernel
theorem d_Am_toPlaces_90 : decode b_Am_toPlaces 90 = .ok (.lcmp, 1) := by decide +kernel
theorem d_Am_toPlaces_91 : decode b_Am_toPlaces 91 = .ok (.ifCond .ge 11, 3) := by decide +kernel
theorem d_Am_toPlaces_94 : decode b_Am_toPlaces 94 = .ok (.dload 10, 2) := by decide +kernel
theorem d_Am_toPlaces_96 : decode b_Am_toPlaces 96 = .ok (.dload 6, 2) := by decide +kernel
theorem d_Am_toPlaces_98 : decode b_Am_toPlaces 98 = .ok (.dmul, 1) := by decide +kernel
theorem d_Am_toPlaces_99 : decode b_Am_toPlaces 99 = .ok (.goto 8, 3) := by decide +kernel
theorem d_Am_toPlaces_102 : decode b_Am_toPlaces 102 = .ok (.dload 10, 2) := by decide +kernel
theorem d_Am_toPlaces_104 : decode b_Am_toPlaces 104 = .ok (.dload 6, 2) := by decide +kernel
theorem d_Am_toPlaces_106 : decode b_Am_toPlaces 106 = .ok (.ddiv, 1) := by decide +kernel
theorem d_Am_toPlaces_107 : decode b_Am_toPlaces 107 = .ok (.dstore 12, 2) := by decide +kernel
theorem d_Am_toPlaces_109 : decode b_Am_toPlaces 109 = .ok (.dload_n 0, 1) := by decide +kernel
theorem d_Am_toPlaces_110 : decode b_Am_toPlaces 110 = .ok (.dconst 0, 1) := by decide +kernel
theorem d_Am_toPlaces_111 : decode b_Am_toPlaces 111 = .ok (.dcmp .g, 1) := by decide +kernel
theorem d_Am_toPlaces_112 : decode b_Am_toPlaces 112 = .ok (.ifCond .ge 10, 3) := by decide +kernel
theorem d_Am_toPlaces_115 : decode b_Am_toPlaces 115 = .ok (.dconst 0, 1) := by decide +kernel
theorem d_Am_toPlaces_116 : decode b_Am_toPlaces 116 = .ok (.dload 12, 2) := by decide +kernel
theorem d_Am_toPlaces_118 : decode b_Am_toPlaces 118 = .ok (.dsub, 1) := by decide +kernel
theorem d_Am_toPlaces_119 : decode b_Am_toPlaces 119 = .ok (.goto 5, 3) := by decide +kernel
theorem d_Am_toPlaces_122 : decode b_Am_toPlaces 122 = .ok (.dload 12, 2) := by decide +kernel
theorem d_Am_toPlaces_124 : decode b_Am_toPlaces 124 = .ok (.invokestatic 19, 3) := by decide +kernel
theorem d_Am_toPlaces_127 : decode b_Am_toPlaces 127 = .ok (.areturn, 1) := by decide +kernel
theorem p_Am_toPlaces_b16 (d : Nat)   (h : gk_H) : gk_P gw_R (d + 3) y_Am_toPlaces b_Am_toPlaces 14 (some (.object "ValueAlgebra$Value")) [] (f_Am_toPlaces_b16   h) 16 [] [] h := by
  unfold f_Am_toPlaces_b16
  refine gk_bipush (pc := 16) (6 : Int32) d_Am_toPlaces_16 rfl ?_
  refine gk_callS (pc := 18) (d := (d + 2)) (w' := gv_R) (as := [.int (6 : Int32)]) (n := 1) d_Am_toPlaces_18 rfl rfl (Nat.le_of_ble_eq_true rfl) tw_996 tw_236 tw_97 cw_Va_ofError hy_Va_ofError (Nat.le_of_ble_eq_true rfl) (p_Va_ofError d (6 : Int32) h) fun x1 h1 => ?_
  exact gk_aret (pc := 21) rfl d_Am_toPlaces_21 rfl (Or.inl ⟨_, rfl⟩)
theorem p_Am_toPlaces_b124 (d : Nat)  (s0 : UInt64) (h : gk_H) : gk_P gw_R (d + 3) y_Am_toPlaces b_Am_toPlaces 14 (some (.object "ValueAlgebra$Value")) [] (f_Am_toPlaces_b124  s0 h) 124 [] [.double s0] h := by
  unfold f_Am_toPlaces_b124
  refine gk_callS (pc := 124) (d := (d + 2)) (w' := gv_R) (as := [.double s0]) (n := 1) d_Am_toPlaces_124 rfl rfl (Nat.le_of_ble_eq_true rfl) tw_1004 tw_317 tw_97 cw_Va_ofNumber hy_Va_ofNumber (Nat.le_of_ble_eq_true rfl) (p_Va_ofNumber d s0 h) fun x1 h1 => ?_
  exact gk_aret (pc := 127) rfl d_Am_toPlaces_127 rfl (Or.inl ⟨_, rfl⟩)
theorem p_Am_toPlaces_b107 (d : Nat)  (v0 : UInt64) (s0 : UInt64) (h : gk_H) : gk_P gw_R (d + 3) y_Am_toPlaces b_Am_toPlaces 14 (some (.object "ValueAlgebra$Value")) [] (f_Am_toPlaces_b107  v0 s0 h) 107 [(0, .double v0)] [.double s0] h := by
  unfold f_Am_toPlaces_b107
  refine gk_dstore (pc := 107) (L' := [(12, .double s0), (0, .double v0)]) d_Am_toPlaces_107 (Nat.le_of_ble_eq_true rfl) rfl ?_
  refine gk_dload_n (pc := 109) 1 d_Am_toPlaces_109 rfl ?_
  refine gk_dconst0 (pc := 110) d_Am_toPlaces_110 ?_
  refine gk_dcmp (pc := 111) d_Am_toPlaces_111 ?_
  refine gk_if_ge (pc := 112) 122 d_Am_toPlaces_112 rfl (fun _ => ?_) (fun _ => ?_)
  · refine gk_dload (pc := 122) 0 d_Am_toPlaces_122 rfl ?_
    refine gk_weak [] (L' := []) rfl ?_
    exact p_Am_toPlaces_b124 d s0 h
  · refine gk_dconst0 (pc := 115) d_Am_toPlaces_115 ?_
    refine gk_dload (pc := 116) 0 d_Am_toPlaces_116 rfl ?_
    refine gk_dsubN (pc := 118) d_Am_toPlaces_118 fun x1 => ?_
    refine gk_goto (pc := 119) 124 d_Am_toPlaces_119 rfl ?_
    refine gk_weak [] (L' := []) rfl ?_
    exact p_Am_toPlaces_b124 d x1 h
theorem p_Am_toPlaces_b62 (d : Nat)  (v0 : UInt64) (v2 : Int64) (v4 : UInt64) (v6 : UInt64) (s0 : UInt64) (h : gk_H) : gk_P gw_R (d + 3) y_Am_toPlaces b_Am_toPlaces 14 (some (.object "ValueAlgebra$Value")) [] (f_Am_toPlaces_b62  v0 v2 v4 v6 s0 h) 62 [(0, .double v0), (2, .long v2), (4, .double v4), (6, .double v6)] [.double s0] h := by
  unfold f_Am_toPlaces_b62
  refine gk_dstore (pc := 62) (L' := [(8, .double s0), (0, .double v0), (2, .long v2), (4, .double v4), (6, .double v6)]) d_Am_toPlaces_62 (Nat.le_of_ble_eq_true rfl) rfl ?_
  refine gk_dload (pc := 64) 0 d_Am_toPlaces_64 rfl ?_
  refine gk_callS (pc := 66) (d := (d + 2)) (w' := gv_I) (as := [.double s0]) (n := 1) d_Am_toPlaces_66 rfl rfl (Nat.le_of_ble_eq_true rfl) tw_1003 tw_320 tw_97 cw_Va_isFinite hy_Va_isFinite (Nat.le_of_ble_eq_true rfl) (p_Va_isFinite (d + 2) s0 h) fun x1 h1 => ?_
  refine gk_if_ne (pc := 69) 78 d_Am_toPlaces_69 rfl (fun _ => ?_) (fun _ => ?_)
  · refine gk_bipush (pc := 72) (6 : Int32) d_Am_toPlaces_72 rfl ?_
    refine gk_callS (pc := 74) (d := (d + 2)) (w' := gv_R) (as := [.int (6 : Int32)]) (n := 1) d_Am_toPlaces_74 rfl rfl (Nat.le_of_ble_eq_true rfl) tw_996 tw_236 tw_97 cw_Va_ofError hy_Va_ofError (Nat.le_of_ble_eq_true rfl) (p_Va_ofError d (6 : Int32) h1) fun x2 h2 => ?_
    exact gk_aret (pc := 77) rfl d_Am_toPlaces_77 rfl (Or.inl ⟨_, rfl⟩)
  · refine gk_dload (pc := 78) 0 d_Am_toPlaces_78 rfl ?_
    refine gk_dload (pc := 80) 3 d_Am_toPlaces_80 rfl ?_
    refine gk_daddN (pc := 82) d_Am_toPlaces_82 fun x3 => ?_
    refine gk_callS (pc := 83) (d := (d + 2)) (w' := gv_D) (as := [.double x3]) (n := 1) d_Am_toPlaces_83 rfl rfl (Nat.le_of_ble_eq_true rfl) tw_995 tw_903 tw_117 cw_Am_wholePart hy_Am_wholePart (Nat.le_of_ble_eq_true rfl) (p_Am_wholePart (d + 1) x3 h1) fun x4 h3 => ?_
    refine gk_dstore (pc := 86) (L' := [(10, .double x4), (8, .double s0), (0, .double v0), (2, .long v2), (4, .double v4), (6, .double v6)]) d_Am_toPlaces_86 (Nat.le_of_ble_eq_true rfl) rfl ?_
    refine gk_lload_n (pc := 88) 3 d_Am_toPlaces_88 rfl ?_
    refine gk_lconst (pc := 89) (0 : Int64) d_Am_toPlaces_89 rfl ?_
    refine gk_lcmp (pc := 90) d_Am_toPlaces_90 ?_
    refine gk_if_ge (pc := 91) 102 d_Am_toPlaces_91 rfl (fun _ => ?_) (fun _ => ?_)
    · refine gk_dload (pc := 102) 0 d_Am_toPlaces_102 rfl ?_
      refine gk_dload (pc := 104) 5 d_Am_toPlaces_104 rfl ?_
      refine gk_ddivN (pc := 106) d_Am_toPlaces_106 fun x5 => ?_
      refine gk_weak [2] (L' := [(0, .double v0)]) rfl ?_
      exact p_Am_toPlaces_b107 d v0 x5 h3
    · refine gk_dload (pc := 94) 0 d_Am_toPlaces_94 rfl ?_
      refine gk_dload (pc := 96) 5 d_Am_toPlaces_96 rfl ?_
      refine gk_dmulN (pc := 98) d_Am_toPlaces_98 fun x6 => ?_
      refine gk_goto (pc := 99) 107 d_Am_toPlaces_99 rfl ?_
      refine gk_weak [2] (L' := [(0, .double v0)]) rfl ?_
      exact p_Am_toPlaces_b107 d v0 x6 h3
theorem p_Am_toPlaces_b34 (d : Nat)  (v0 : UInt64) (v2 : Int64) (v4 : UInt64) (s0 : Int64) (h : gk_H) : gk_P gw_R (d + 3) y_Am_toPlaces b_Am_toPlaces 14 (some (.object "ValueAlgebra$Value")) [] (f_Am_toPlaces_b34  v0 v2 v4 s0 h) 34 [(0, .double v0), (2, .long v2), (4, .double v4)] [.long s0] h := by
  unfold f_Am_toPlaces_b34
  refine gk_callS (pc := 34) (d := (d + 2)) (w' := gv_D) (as := [.long s0]) (n := 1) d_Am_toPlaces_34 rfl rfl (Nat.le_of_ble_eq_true rfl) tw_1295 tw_833 tw_117 cw_Am_tenTo hy_Am_tenTo (Nat.le_of_ble_eq_true rfl) (p_Am_tenTo (d + 2) s0 h) fun x1 h1 => ?_
  refine gk_dstore (pc := 37) (L' := [(6, .double x1), (0, .double v0), (2, .long v2), (4, .double v4)]) d_Am_toPlaces_37 (Nat.le_of_ble_eq_true rfl) rfl ?_
  refine gk_lload_n (pc := 39) 2 d_Am_toPlaces_39 rfl ?_
  refine gk_lconst (pc := 40) (0 : Int64) d_Am_toPlaces_40 rfl ?_
  refine gk_lcmp (pc := 41) d_Am_toPlaces_41 ?_
  refine gk_if_ge (pc := 42) 55 d_Am_toPlaces_42 rfl (fun _ => ?_) (fun _ => ?_)
  · refine gk_dload_n (pc := 55) 1 d_Am_toPlaces_55 rfl ?_
    refine gk_callS (pc := 56) (d := (d + 2)) (w' := gv_D) (as := [.double v0]) (n := 1) d_Am_toPlaces_56 rfl rfl (Nat.le_of_ble_eq_true rfl) tw_997 tw_998 tw_117 cw_Am_sizeOf hy_Am_sizeOf (Nat.le_of_ble_eq_true rfl) (p_Am_sizeOf (d + 2) v0 h1) fun x2 h2 => ?_
    refine gk_dload (pc := 59) 0 d_Am_toPlaces_59 rfl ?_
    refine gk_dmulN (pc := 61) d_Am_toPlaces_61 fun x3 => ?_
    refine gk_weak [1, 2, 3, 0] (L' := [(0, .double v0), (2, .long v2), (4, .double v4), (6, .double x1)]) rfl ?_
    exact p_Am_toPlaces_b62 d v0 v2 v4 x1 x3 h2
  · refine gk_dload_n (pc := 45) 1 d_Am_toPlaces_45 rfl ?_
    refine gk_callS (pc := 46) (d := (d + 2)) (w' := gv_D) (as := [.double v0]) (n := 1) d_Am_toPlaces_46 rfl rfl (Nat.le_of_ble_eq_true rfl) tw_997 tw_998 tw_117 cw_Am_sizeOf hy_Am_sizeOf (Nat.le_of_ble_eq_true rfl) (p_Am_sizeOf (d + 2) v0 h1) fun x4 h3 => ?_
    refine gk_dload (pc := 49) 0 d_Am_toPlaces_49 rfl ?_
    refine gk_ddivN (pc := 51) d_Am_toPlaces_51 fun x5 => ?_
    refine gk_goto (pc := 52) 62 d_Am_toPlaces_52 rfl ?_
    refine gk_weak [1, 2, 3, 0] (L' := [(0, .double v0), (2, .long v2), (4, .double v4), (6, .double x1)]) rfl ?_
    exact p_Am_toPlaces_b62 d v0 v2 v4 x1 x5 h3
theorem w_Am_toPlaces (d : Nat) (a0 : UInt64) (a1 : Int64) (a2 : UInt64) (h : gk_H) : gk_P gw_R (d + 3) y_Am_toPlaces b_Am_toPlaces 14 (some (.object "ValueAlgebra$Value")) [] (f_Am_toPlaces a0 a1 a2 h) 0 [(0, .double a0), (2, .long a1), (4, .double a2)] [] h := by
  unfold f_Am_toPlaces
  refine gk_lload_n (pc := 0) 1 d_Am_toPlaces_0 rfl ?_
  refine gk_ldc2 (pc := 1) tw_1293 d_Am_toPlaces_1 ?_
  refine gk_lcmp (pc := 4) d_Am_toPlaces_4 ?_
  refine gk_if_lt (pc := 5) 16 d_Am_toPlaces_5 rfl (fun _ => ?_) (fun _ => ?_)
  · refine gk_weak [] (L' := []) rfl ?_
    exact p_Am_toPlaces_b16 d h
  · refine gk_lload_n (pc := 8) 1 d_Am_toPlaces_8 rfl ?_
    refine gk_ldc2 (pc := 9) tw_1294 d_Am_toPlaces_9 ?_
    refine gk_lcmp (pc := 12) d_Am_toPlaces_12 ?_
    refine gk_if_le (pc := 13) 22 d_Am_toPlaces_13 rfl (fun _ => ?_) (fun _ => ?_)
    · refine gk_lload_n (pc := 22) 1 d_Am_toPlaces_22 rfl ?_
      refine gk_lconst (pc := 23) (0 : Int64) d_Am_toPlaces_23 rfl ?_
      refine gk_lcmp (pc := 24) d_Am_toPlaces_24 ?_
      refine gk_if_ge (pc := 25) 33 d_Am_toPlaces_25 rfl (fun _ => ?_) (fun _ => ?_)
      · refine gk_lload_n (pc := 33) 1 d_Am_toPlaces_33 rfl ?_
        exact p_Am_toPlaces_b34 d a0 a1 a2 a1 h
      · refine gk_lload_n (pc := 28) 1 d_Am_toPlaces_28 rfl ?_
        refine gk_lneg (pc := 29) d_Am_toPlaces_29 ?_
        refine gk_goto (pc := 30) 34 d_Am_toPlaces_30 rfl ?_
        exact p_Am_toPlaces_b34 d a0 a1 a2 (-a1) h
    · refine gk_weak [] (L' := []) rfl ?_
      exact p_Am_toPlaces_b16 d h
theorem p_Am_toPlaces (d : Nat) (a0 : UInt64) (a1 : Int64) (a2 : UInt64) (h : gk_H) : ∀ r h1, f_Am_toPlaces a0 a1 a2 h = some (r, h1) → gk_M (d + 3) y_Am_toPlaces b_Am_toPlaces 14 (some (.object "ValueAlgebra$Value")) [.double a0, .long a1, .double a2] h (.inl (gv_R r)) h1 :=
  fun r h1 e => gk_M_of2 (by decide +kernel) (by simp [lv_args, gk_cat_rf, gk_catI, gk_catJ, gk_catD, gv_V, gv_I, gv_J, gv_D, gv_R]) (by simp [lg_sl, gk_cat_rf, gk_catI, gk_catJ, gk_catD, gv_V, gv_I, gv_J, gv_D, gv_R]) (w_Am_toPlaces d a0 a1 a2 h r h1 e)
theorem d_Am_ceiling_0 : decode b_Am_ceiling 0 = .ok (.dload_n 0, 1) := by decide +kernel
theorem d_Am_ceiling_1 : decode b_Am_ceiling 1 = .ok (.invokestatic 92, 3) := by decide +kernel
theorem d_Am_ceiling_4 : decode b_Am_ceiling 4 = .ok (.dstore_n 2, 1) := by decide +kernel
theorem d_Am_ceiling_5 : decode b_Am_ceiling 5 = .ok (.dload_n 2, 1) := by decide +kernel
theorem d_Am_ceiling_6 : decode b_Am_ceiling 6 = .ok (.dload_n 0, 1) := by decide +kernel
theorem d_Am_ceiling_7 : decode b_Am_ceiling 7 = .ok (.dcmp .g, 1) := by decide +kernel
theorem d_Am_ceiling_8 : decode b_Am_ceiling 8 = .ok (.ifCond .ge 9, 3) := by decide +kernel
theorem d_Am_ceiling_11 : decode b_Am_ceiling 11 = .ok (.dload_n 2, 1) := by decide +kernel
theorem d_Am_ceiling_12 : decode b_Am_ceiling 12 = .ok (.dconst 1, 1) := by decide +kernel
theorem d_Am_ceiling_13 : decode b_Am_ceiling 13 = .ok (.dadd, 1) := by decide +kernel
theorem d_Am_ceiling_14 : decode b_Am_ceiling 14 = .ok (.goto 4, 3) := by decide +kernel
theorem d_Am_ceiling_17 : decode b_Am_ceiling 17 = .ok (.dload_n 2, 1) := by decide +kernel
theorem d_Am_ceiling_18 : decode b_Am_ceiling 18 = .ok (.dreturn, 1) := by decide +kernel
theorem p_Am_ceiling_b18 (d : Nat)  (s0 : UInt64) (h : gk_H) : gk_P gw_D (d + 2) y_Am_ceiling b_Am_ceiling 4 (some .double) [] (f_Am_ceiling_b18  s0 h) 18 [] [.double s0] h := by
  unfold f_Am_ceiling_b18
  exact gk_dret (pc := 18) rfl d_Am_ceiling_18 rfl
theorem w_Am_ceiling (d : Nat) (a0 : UInt64) (h : gk_H) : gk_P gw_D (d + 2) y_Am_ceiling b_Am_ceiling 4 (some .double) [] (f_Am_ceiling a0 h) 0 [(0, .double a0)] [] h := by
  unfold f_Am_ceiling
  refine gk_dload_n (pc := 0) 0 d_Am_ceiling_0 rfl ?_
  refine gk_callS (pc := 1) (d := (d + 1)) (w' := gv_D) (as := [.double a0]) (n := 1) d_Am_ceiling_1 rfl rfl (Nat.le_of_ble_eq_true rfl) tw_995 tw_903 tw_117 cw_Am_wholePart hy_Am_wholePart (Nat.le_of_ble_eq_true rfl) (p_Am_wholePart d a0 h) fun x1 h1 => ?_
  refine gk_dstore_n (pc := 4) (L' := [(2, .double x1), (0, .double a0)]) d_Am_ceiling_4 (Nat.le_of_ble_eq_true rfl) rfl ?_
  refine gk_dload_n (pc := 5) 0 d_Am_ceiling_5 rfl ?_
  refine gk_dload_n (pc := 6) 1 d_Am_ceiling_6 rfl ?_
  refine gk_dcmp (pc := 7) d_Am_ceiling_7 ?_
  refine gk_if_ge (pc := 8) 17 d_Am_ceiling_8 rfl (fun _ => ?_) (fun _ => ?_)
  · refine gk_dload_n (pc := 17) 0 d_Am_ceiling_17 rfl ?_
    refine gk_weak [] (L' := []) rfl ?_
    exact p_Am_ceiling_b18 d x1 h1
  · refine gk_dload_n (pc := 11) 0 d_Am_ceiling_11 rfl ?_
    refine gk_dconst1 (pc := 12) d_Am_ceiling_12 ?_
    refine gk_daddN (pc := 13) d_Am_ceiling_13 fun x2 => ?_
    refine gk_goto (pc := 14) 18 d_Am_ceiling_14 rfl ?_
    refine gk_weak [] (L' := []) rfl ?_
    exact p_Am_ceiling_b18 d x2 h1
theorem p_Am_ceiling (d : Nat) (a0 : UInt64) (h : gk_H) : ∀ r h1, f_Am_ceiling a0 h = some (r, h1) → gk_M (d + 2) y_Am_ceiling b_Am_ceiling 4 (some .double) [.double a0] h (.inl (gv_D r)) h1 :=
  fun r h1 e => gk_M_of2 (by decide +kernel) (by simp [lv_args, gk_cat_rf, gk_catI, gk_catJ, gk_catD, gv_V, gv_I, gv_J, gv_D, gv_R]) (by simp [lg_sl, gk_cat_rf, gk_catI, gk_catJ, gk_catD, gv_V, gv_I, gv_J, gv_D, gv_R]) (w_Am_ceiling d a0 h r h1 e)
theorem d_Am_floor_0 : decode b_Am_floor 0 = .ok (.dload_n 0, 1) := by decide +kernel
theorem d_Am_floor_1 : decode b_Am_floor 1 = .ok (.invokestatic 92, 3) := by decide +kernel
theorem d_Am_floor_4 : decode b_Am_floor 4 = .ok (.dstore_n 2, 1) := by decide +kernel
theorem d_Am_floor_5 : decode b_Am_floor 5 = .ok (.dload_n 2, 1) := by decide +kernel
theorem d_Am_floor_6 : decode b_Am_floor 6 = .ok (.dload_n 0, 1) := by decide +kernel
theorem d_Am_floor_7 : decode b_Am_floor 7 = .ok (.dcmp .l, 1) := by decide +kernel
theorem d_Am_floor_8 : decode b_Am_floor 8 = .ok (.ifCond .le 9, 3) := by decide +kernel
theorem d_Am_floor_11 : decode b_Am_floor 11 = .ok (.dload_n 2, 1) := by decide +kernel
theorem d_Am_floor_12 : decode b_Am_floor 12 = .ok (.dconst 1, 1) := by decide +kernel
theorem d_Am_floor_13 : decode b_Am_floor 13 = .ok (.dsub, 1) := by decide +kernel
theorem d_Am_floor_14 : decode b_Am_floor 14 = .ok (.goto 4, 3) := by decide +kernel
theorem d_Am_floor_17 : decode b_Am_floor 17 = .ok (.dload_n 2, 1) := by decide +kernel
theorem d_Am_floor_18 : decode b_Am_floor 18 = .ok (.dreturn, 1) := by decide +kernel
theorem p_Am_floor_b18 (d : Nat)  (s0 : UInt64) (h : gk_H) : gk_P gw_D (d + 2) y_Am_floor b_Am_floor 4 (some .double) [] (f_Am_floor_b18  s0 h) 18 [] [.double s0] h := by
  unfold f_Am_floor_b18
  exact gk_dret (pc := 18) rfl d_Am_floor_18 rfl
theorem w_Am_floor (d : Nat) (a0 : UInt64) (h : gk_H) : gk_P gw_D (d + 2) y_Am_floor b_Am_floor 4 (some .double) [] (f_Am_floor a0 h) 0 [(0, .double a0)] [] h := by
  unfold f_Am_floor
  refine gk_dload_n (pc := 0) 0 d_Am_floor_0 rfl ?_
  refine gk_callS (pc := 1) (d := (d + 1)) (w' := gv_D) (as := [.double a0]) (n := 1) d_Am_floor_1 rfl rfl (Nat.le_of_ble_eq_true rfl) tw_995 tw_903 tw_117 cw_Am_wholePart hy_Am_wholePart (Nat.le_of_ble_eq_true rfl) (p_Am_wholePart d a0 h) fun x1 h1 => ?_
  refine gk_dstore_n (pc := 4) (L' := [(2, .double x1), (0, .double a0)]) d_Am_floor_4 (Nat.le_of_ble_eq_true rfl) rfl ?_
  refine gk_dload_n (pc := 5) 0 d_Am_floor_5 rfl ?_
  refine gk_dload_n (pc := 6) 1 d_Am_floor_6 rfl ?_
  refine gk_dcmp (pc := 7) d_Am_floor_7 ?_
  refine gk_if_le (pc := 8) 17 d_Am_floor_8 rfl (fun _ => ?_) (fun _ => ?_)
  · refine gk_dload_n (pc := 17) 0 d_Am_floor_17 rfl ?_
    refine gk_weak [] (L' := []) rfl ?_
    exact p_Am_floor_b18 d x1 h1
  · refine gk_dload_n (pc := 11) 0 d_Am_floor_11 rfl ?_
    refine gk_dconst1 (pc := 12) d_Am_floor_12 ?_
    refine gk_dsubN (pc := 13) d_Am_floor_13 fun x2 => ?_
    refine gk_goto (pc := 14) 18 d_Am_floor_14 rfl ?_
    refine gk_weak [] (L' := []) rfl ?_
    exact p_Am_floor_b18 d x2 h1
theorem p_Am_floor (d : Nat) (a0 : UInt64) (h : gk_H) : ∀ r h1, f_Am_floor a0 h = some (r, h1) → gk_M (d + 2) y_Am_floor b_Am_floor 4 (some .double) [.double a0] h (.inl (gv_D r)) h1 :=
  fun r h1 e => gk_M_of2 (by decide +kernel) (by simp [lv_args, gk_cat_rf, gk_catI, gk_catJ, gk_catD, gv_V, gv_I, gv_J, gv_D, gv_R]) (by simp [lg_sl, gk_cat_rf, gk_catI, gk_catJ, gk_catD, gv_V, gv_I, gv_J, gv_D, gv_R]) (w_Am_floor d a0 h r h1 e)
theorem d_Am_timesWhole_0 : decode b_Am_timesWhole 0 = .ok (.dload_n 2, 1) := by decide +kernel
theorem d_Am_timesWhole_1 : decode b_Am_timesWhole 1 = .ok (.invokestatic 105, 3) := by decide +kernel
theorem d_Am_timesWhole_4 : decode b_Am_timesWhole 4 = .ok (.ifCond .ne 9, 3) := by decide +kernel
theorem d_Am_timesWhole_7 : decode b_Am_timesWhole 7 = .ok (.bipush 6, 2) := by decide +kernel
theorem d_Am_timesWhole_9 : decode b_Am_timesWhole 9 = .ok (.invokestatic 80, 3) := by decide +kernel
theorem d_Am_timesWhole_12 : decode b_Am_timesWhole 12 = .ok (.areturn, 1) := by decide +kernel
theorem d_Am_timesWhole_13 : decode b_Am_timesWhole 13 = .ok (.dload_n 0, 1) := by decide +kernel
theorem d_Am_timesWhole_14 : decode b_Am_timesWhole 14 = .ok (.iload 4, 2) := by decide +kernel
theorem d_Am_timesWhole_16 : decode b_Am_timesWhole 16 = .ok (.ifCond .eq 10, 3) := by decide +kernel
theorem d_Am_timesWhole_19 : decode b_Am_timesWhole 19 = .ok (.dload_n 2, 1) := by decide +kernel
theorem d_Am_timesWhole_20 : decode b_Am_timesWhole 20 = .ok (.invokestatic 126, 3) := by decide +kernel
theorem d_Am_timesWhole_23 : decode b_Am_timesWhole 23 = .ok (.goto 7, 3) := by decide +kernel
theorem d_Am_timesWhole_26 : decode b_Am_timesWhole 26 = .ok (.dload_n 2, 1) := by decide +kernel
theorem d_Am_timesWhole_27 : decode b_Am_timesWhole 27 = .ok (.invokestatic 29, 3) := by decide +kernel
theorem d_Am_timesWhole_30 : decode b_Am_timesWhole 30 = .ok (.dmul, 1) := by decide +kernel
theorem d_Am_timesWhole_31 : decode b_Am_timesWhole 31 = .ok (.invokestatic 19, 3) := by decide +kernel
theorem d_Am_timesWhole_34 : decode b_Am_timesWhole 34 = .ok (.areturn, 1) := by decide +kernel
theorem p_Am_timesWhole_b30 (d : Nat)  (s0 : UInt64) (s1 : UInt64) (h : gk_H) : gk_P gw_R (d + 3) y_Am_timesWhole b_Am_timesWhole 5 (some (.object "ValueAlgebra$Value")) [] (f_Am_timesWhole_b30  s0 s1 h) 30 [] [.double s1, .double s0] h := by
  unfold f_Am_timesWhole_b30
  refine gk_dmulN (pc := 30) d_Am_timesWhole_30 fun x1 => ?_
  refine gk_callS (pc := 31) (d := (d + 2)) (w' := gv_R) (as := [.double x1]) (n := 1) d_Am_timesWhole_31 rfl rfl (Nat.le_of_ble_eq_true rfl) tw_1004 tw_317 tw_97 cw_Va_ofNumber hy_Va_ofNumber (Nat.le_of_ble_eq_true rfl) (p_Va_ofNumber d x1 h) fun x2 h1 => ?_
  exact gk_aret (pc := 34) rfl d_Am_timesWhole_34 rfl (Or.inl ⟨_, rfl⟩)
theorem w_Am_timesWhole (d : Nat) (a0 : UInt64) (a1 : UInt64) (a2 : Int32) (h : gk_H) : gk_P gw_R (d + 3) y_Am_timesWhole b_Am_timesWhole 5 (some (.object "ValueAlgebra$Value")) [] (f_Am_timesWhole a0 a1 a2 h) 0 [(0, .double a0), (2, .double a1), (4, .int a2)] [] h := by
  unfold f_Am_timesWhole
  refine gk_dload_n (pc := 0) 1 d_Am_timesWhole_0 rfl ?_
  refine gk_callS (pc := 1) (d := (d + 2)) (w' := gv_I) (as := [.double a1]) (n := 1) d_Am_timesWhole_1 rfl rfl (Nat.le_of_ble_eq_true rfl) tw_1003 tw_320 tw_97 cw_Va_isFinite hy_Va_isFinite (Nat.le_of_ble_eq_true rfl) (p_Va_isFinite (d + 2) a1 h) fun x1 h1 => ?_
  refine gk_if_ne (pc := 4) 13 d_Am_timesWhole_4 rfl (fun _ => ?_) (fun _ => ?_)
  · refine gk_bipush (pc := 7) (6 : Int32) d_Am_timesWhole_7 rfl ?_
    refine gk_callS (pc := 9) (d := (d + 2)) (w' := gv_R) (as := [.int (6 : Int32)]) (n := 1) d_Am_timesWhole_9 rfl rfl (Nat.le_of_ble_eq_true rfl) tw_996 tw_236 tw_97 cw_Va_ofError hy_Va_ofError (Nat.le_of_ble_eq_true rfl) (p_Va_ofError d (6 : Int32) h1) fun x2 h2 => ?_
    exact gk_aret (pc := 12) rfl d_Am_timesWhole_12 rfl (Or.inl ⟨_, rfl⟩)
  · refine gk_dload_n (pc := 13) 0 d_Am_timesWhole_13 rfl ?_
    refine gk_iload (pc := 14) 2 d_Am_timesWhole_14 rfl ?_
    refine gk_if_eq (pc := 16) 26 d_Am_timesWhole_16 rfl (fun _ => ?_) (fun _ => ?_)
    · refine gk_dload_n (pc := 26) 1 d_Am_timesWhole_26 rfl ?_
      refine gk_callS (pc := 27) (d := (d + 2)) (w' := gv_D) (as := [.double a1]) (n := 1) d_Am_timesWhole_27 rfl rfl (Nat.le_of_ble_eq_true rfl) tw_1236 tw_1237 tw_117 cw_Am_floor hy_Am_floor (Nat.le_of_ble_eq_true rfl) (p_Am_floor d a1 h1) fun x3 h3 => ?_
      refine gk_weak [] (L' := []) rfl ?_
      exact p_Am_timesWhole_b30 d a0 x3 h3
    · refine gk_dload_n (pc := 19) 1 d_Am_timesWhole_19 rfl ?_
      refine gk_callS (pc := 20) (d := (d + 2)) (w' := gv_D) (as := [.double a1]) (n := 1) d_Am_timesWhole_20 rfl rfl (Nat.le_of_ble_eq_true rfl) tw_1269 tw_1270 tw_117 cw_Am_ceiling hy_Am_ceiling (Nat.le_of_ble_eq_true rfl) (p_Am_ceiling d a1 h1) fun x4 h4 => ?_
      refine gk_goto (pc := 23) 30 d_Am_timesWhole_23 rfl ?_
      refine gk_weak [] (L' := []) rfl ?_
      exact p_Am_timesWhole_b30 d a0 x4 h4
theorem p_Am_timesWhole (d : Nat) (a0 : UInt64) (a1 : UInt64) (a2 : Int32) (h : gk_H) : ∀ r h1, f_Am_timesWhole a0 a1 a2 h = some (r, h1) → gk_M (d + 3) y_Am_timesWhole b_Am_timesWhole 5 (some (.object "ValueAlgebra$Value")) [.double a0, .double a1, .int a2] h (.inl (gv_R r)) h1 :=
  fun r h1 e => gk_M_of2 (by decide +kernel) (by simp [lv_args, gk_cat_rf, gk_catI, gk_catJ, gk_catD, gv_V, gv_I, gv_J, gv_D, gv_R]) (by simp [lg_sl, gk_cat_rf, gk_catI, gk_catJ, gk_catD, gv_V, gv_I, gv_J, gv_D, gv_R]) (w_Am_timesWhole d a0 a1 a2 h r h1 e)
theorem d_Am_floorTo_0 : decode b_Am_floorTo 0 = .ok (.dload_n 2, 1) := by decide +kernel
theorem d_Am_floorTo_1 : decode b_Am_floorTo 1 = .ok (.dconst 0, 1) := by decide +kernel
theorem d_Am_floorTo_2 : decode b_Am_floorTo 2 = .ok (.dcmp .l, 1) := by decide +kernel
theorem d_Am_floorTo_3 : decode b_Am_floorTo 3 = .ok (.ifCond .ne 21, 3) := by decide +kernel
theorem d_Am_floorTo_6 : decode b_Am_floorTo 6 = .ok (.dload_n 0, 1) := by decide +kernel
theorem d_Am_floorTo_7 : decode b_Am_floorTo 7 = .ok (.dconst 0, 1) := by decide +kernel
theorem d_Am_floorTo_8 : decode b_Am_floorTo 8 = .ok (.dcmp .l, 1) := by decide +kernel
theorem d_Am_floorTo_9 : decode b_Am_floorTo 9 = .ok (.ifCond .ne 10, 3) := by decide +kernel
theorem d_Am_floorTo_12 : decode b_Am_floorTo 12 = .ok (.dconst 0, 1) := by decide +kernel
theorem d_Am_floorTo_13 : decode b_Am_floorTo 13 = .ok (.invokestatic 19, 3) := by decide +kernel
theorem d_Am_floorTo_16 : decode b_Am_floorTo 16 = .ok (.goto 7, 3) := by decide +kernel
theorem d_Am_floorTo_19 : decode b_Am_floorTo 19 = .ok (.iconst 2, 1) := by decide +kernel
theorem d_Am_floorTo_20 : decode b_Am_floorTo 20 = .ok (.invokestatic 80, 3) := by decide +kernel
theorem d_Am_floorTo_23 : decode b_Am_floorTo 23 = .ok (.areturn, 1) := by decide +kernel
theorem d_Am_floorTo_24 : decode b_Am_floorTo 24 = .ok (.dload_n 0, 1) := by decide +kernel
theorem d_Am_floorTo_25 : decode b_Am_floorTo 25 = .ok (.dconst 0, 1) := by decide +kernel
theorem d_Am_floorTo_26 : decode b_Am_floorTo 26 = .ok (.dcmp .l, 1) := by decide +kernel
theorem d_Am_floorTo_27 : decode b_Am_floorTo 27 = .ok (.ifCond .le 17, 3) := by decide +kernel
theorem d_Am_floorTo_30 : decode b_Am_floorTo 30 = .ok (.dload_n 2, 1) := by decide +kernel
theorem d_Am_floorTo_31 : decode b_Am_floorTo 31 = .ok (.dconst 0, 1) := by decide +kernel
theorem d_Am_floorTo_32 : decode b_Am_floorTo 32 = .ok (.dcmp .g, 1) := by decide +kernel
theorem d_Am_floorTo_33 : decode b_Am_floorTo 33 = .ok (.ifCond .ge 11, 3) := by decide +kernel
theorem d_Am_floorTo_36 : decode b_Am_floorTo 36 = .ok (.bipush 6, 2) := by decide +kernel
theorem d_Am_floorTo_38 : decode b_Am_floorTo 38 = .ok (.invokestatic 80, 3) := by decide +kernel
theorem d_Am_floorTo_41 : decode b_Am_floorTo 41 = .ok (.goto 11, 3) := by decide +kernel
theorem d_Am_floorTo_44 : decode b_Am_floorTo 44 = .ok (.dload_n 2, 1) := by decide +kernel
theorem d_Am_floorTo_45 : decode b_Am_floorTo 45 = .ok (.dload_n 0, 1) := by decide +kernel
theorem d_Am_floorTo_46 : decode b_Am_floorTo 46 = .ok (.dload_n 2, 1) := by decide +kernel
theorem d_Am_floorTo_47 : decode b_Am_floorTo 47 = .ok (.ddiv, 1) := by decide +kernel
theorem d_Am_floorTo_48 : decode b_Am_floorTo 48 = .ok (.iconst 0, 1) := by decide +kernel
theorem d_Am_floorTo_49 : decode b_Am_floorTo 49 = .ok (.invokestatic 131, 3) := by decide +kernel
theorem d_Am_floorTo_52 : decode b_Am_floorTo 52 = .ok (.areturn, 1) := by decide +kernel
theorem p_Am_floorTo_b52 (d : Nat)  (s0 : Option Nat) (h : gk_H) : gk_P gw_R (d + 4) y_Am_floorTo b_Am_floorTo 4 (some (.object "ValueAlgebra$Value")) [] (f_Am_floorTo_b52  s0 h) 52 [] [va_rf s0] h := by
  unfold f_Am_floorTo_b52
  exact gk_aret (pc := 52) rfl d_Am_floorTo_52 rfl (Or.inl ⟨_, rfl⟩)
theorem p_Am_floorTo_b44 (d : Nat)  (v0 : UInt64) (v2 : UInt64) (h : gk_H) : gk_P gw_R (d + 4) y_Am_floorTo b_Am_floorTo 4 (some (.object "ValueAlgebra$Value")) [] (f_Am_floorTo_b44  v0 v2 h) 44 [(0, .double v0), (2, .double v2)] [] h := by
  unfold f_Am_floorTo_b44
  refine gk_dload_n (pc := 44) 1 d_Am_floorTo_44 rfl ?_
  refine gk_dload_n (pc := 45) 0 d_Am_floorTo_45 rfl ?_
  refine gk_dload_n (pc := 46) 1 d_Am_floorTo_46 rfl ?_
  refine gk_ddivN (pc := 47) d_Am_floorTo_47 fun x1 => ?_
  refine gk_iconst (pc := 48) (0 : Int32) d_Am_floorTo_48 rfl ?_
  refine gk_callS (pc := 49) (d := (d + 3)) (w' := gv_R) (as := [.double v2, .double x1, .int (0 : Int32)]) (n := 3) d_Am_floorTo_49 rfl rfl (Nat.le_of_ble_eq_true rfl) tw_1279 tw_1280 tw_117 cw_Am_timesWhole hy_Am_timesWhole (Nat.le_of_ble_eq_true rfl) (p_Am_timesWhole d v2 x1 (0 : Int32) h) fun x2 h1 => ?_
  refine gk_weak [] (L' := []) rfl ?_
  exact p_Am_floorTo_b52 d x2 h1
theorem p_Am_floorTo_b23 (d : Nat)  (s0 : Option Nat) (h : gk_H) : gk_P gw_R (d + 4) y_Am_floorTo b_Am_floorTo 4 (some (.object "ValueAlgebra$Value")) [] (f_Am_floorTo_b23  s0 h) 23 [] [va_rf s0] h := by
  unfold f_Am_floorTo_b23
  exact gk_aret (pc := 23) rfl d_Am_floorTo_23 rfl (Or.inl ⟨_, rfl⟩)
theorem w_Am_floorTo (d : Nat) (a0 : UInt64) (a1 : UInt64) (h : gk_H) : gk_P gw_R (d + 4) y_Am_floorTo b_Am_floorTo 4 (some (.object "ValueAlgebra$Value")) [] (f_Am_floorTo a0 a1 h) 0 [(0, .double a0), (2, .double a1)] [] h := by
  unfold f_Am_floorTo
  refine gk_dload_n (pc := 0) 1 d_Am_floorTo_0 rfl ?_
  refine gk_dconst0 (pc := 1) d_Am_floorTo_1 ?_
  refine gk_dcmp (pc := 2) d_Am_floorTo_2 ?_
  refine gk_if_ne (pc := 3) 24 d_Am_floorTo_3 rfl (fun _ => ?_) (fun _ => ?_)
  · refine gk_dload_n (pc := 6) 0 d_Am_floorTo_6 rfl ?_
    refine gk_dconst0 (pc := 7) d_Am_floorTo_7 ?_
    refine gk_dcmp (pc := 8) d_Am_floorTo_8 ?_
    refine gk_if_ne (pc := 9) 19 d_Am_floorTo_9 rfl (fun _ => ?_) (fun _ => ?_)
    · refine gk_dconst0 (pc := 12) d_Am_floorTo_12 ?_
      refine gk_callS (pc := 13) (d := (d + 3)) (w' := gv_R) (as := [.double (0x0000000000000000)]) (n := 1) d_Am_floorTo_13 rfl rfl (Nat.le_of_ble_eq_true rfl) tw_1004 tw_317 tw_97 cw_Va_ofNumber hy_Va_ofNumber (Nat.le_of_ble_eq_true rfl) (p_Va_ofNumber (d + 1) (0x0000000000000000) h) fun x1 h1 => ?_
      refine gk_goto (pc := 16) 23 d_Am_floorTo_16 rfl ?_
      refine gk_weak [] (L' := []) rfl ?_
      exact p_Am_floorTo_b23 d x1 h1
    · refine gk_iconst (pc := 19) (2 : Int32) d_Am_floorTo_19 rfl ?_
      refine gk_callS (pc := 20) (d := (d + 3)) (w' := gv_R) (as := [.int (2 : Int32)]) (n := 1) d_Am_floorTo_20 rfl rfl (Nat.le_of_ble_eq_true rfl) tw_996 tw_236 tw_97 cw_Va_ofError hy_Va_ofError (Nat.le_of_ble_eq_true rfl) (p_Va_ofError (d + 1) (2 : Int32) h) fun x2 h2 => ?_
      refine gk_weak [] (L' := []) rfl ?_
      exact p_Am_floorTo_b23 d x2 h2
  · refine gk_dload_n (pc := 24) 0 d_Am_floorTo_24 rfl ?_
    refine gk_dconst0 (pc := 25) d_Am_floorTo_25 ?_
    refine gk_dcmp (pc := 26) d_Am_floorTo_26 ?_
    refine gk_if_le (pc := 27) 44 d_Am_floorTo_27 rfl (fun _ => ?_) (fun _ => ?_)
    · exact p_Am_floorTo_b44 d a0 a1 h
    · refine gk_dload_n (pc := 30) 1 d_Am_floorTo_30 rfl ?_
      refine gk_dconst0 (pc := 31) d_Am_floorTo_31 ?_
      refine gk_dcmp (pc := 32) d_Am_floorTo_32 ?_
      refine gk_if_ge (pc := 33) 44 d_Am_floorTo_33 rfl (fun _ => ?_) (fun _ => ?_)
      · exact p_Am_floorTo_b44 d a0 a1 h
      · refine gk_bipush (pc := 36) (6 : Int32) d_Am_floorTo_36 rfl ?_
        refine gk_callS (pc := 38) (d := (d + 3)) (w' := gv_R) (as := [.int (6 : Int32)]) (n := 1) d_Am_floorTo_38 rfl rfl (Nat.le_of_ble_eq_true rfl) tw_996 tw_236 tw_97 cw_Va_ofError hy_Va_ofError (Nat.le_of_ble_eq_true rfl) (p_Va_ofError (d + 1) (6 : Int32) h) fun x3 h3 => ?_
        refine gk_goto (pc := 41) 52 d_Am_floorTo_41 rfl ?_
        refine gk_weak [] (L' := []) rfl ?_
        exact p_Am_floorTo_b52 d x3 h3
theorem p_Am_floorTo (d : Nat) (a0 : UInt64) (a1 : UInt64) (h : gk_H) : ∀ r h1, f_Am_floorTo a0 a1 h = some (r, h1) → gk_M (d + 4) y_Am_floorTo b_Am_floorTo 4 (some (.object "ValueAlgebra$Value")) [.double a0, .double a1] h (.inl (gv_R r)) h1 :=
  fun r h1 e => gk_M_of2 (by decide +kernel) (by simp [lv_args, gk_cat_rf, gk_catI, gk_catJ, gk_catD, gv_V, gv_I, gv_J, gv_D, gv_R]) (by simp [lg_sl, gk_cat_rf, gk_catI, gk_catJ, gk_catD, gv_V, gv_I, gv_J, gv_D, gv_R]) (w_Am_floorTo d a0 a1 h r h1 e)
theorem d_Am_ceilingTo_0 : decode b_Am_ceilingTo 0 = .ok (.dload_n 2, 1) := by decide +kernel
theorem d_Am_ceilingTo_1 : decode b_Am_ceilingTo 1 = .ok (.dconst 0, 1) := by decide +kernel
theorem d_Am_ceilingTo_2 : decode b_Am_ceilingTo 2 = .ok (.dcmp .l, 1) := by decide +kernel
theorem d_Am_ceilingTo_3 : decode b_Am_ceilingTo 3 = .ok (.ifCond .ne 8, 3) := by decide +kernel
theorem d_Am_ceilingTo_6 : decode b_Am_ceilingTo 6 = .ok (.dconst 0, 1) := by decide +kernel
theorem d_Am_ceilingTo_7 : decode b_Am_ceilingTo 7 = .ok (.invokestatic 19, 3) := by decide +kernel
theorem d_Am_ceilingTo_10 : decode b_Am_ceilingTo 10 = .ok (.areturn, 1) := by decide +kernel
theorem d_Am_ceilingTo_11 : decode b_Am_ceilingTo 11 = .ok (.dload_n 0, 1) := by decide +kernel
theorem d_Am_ceilingTo_12 : decode b_Am_ceilingTo 12 = .ok (.dconst 0, 1) := by decide +kernel
theorem d_Am_ceilingTo_13 : decode b_Am_ceilingTo 13 = .ok (.dcmp .l, 1) := by decide +kernel
theorem d_Am_ceilingTo_14 : decode b_Am_ceilingTo 14 = .ok (.ifCond .le 17, 3) := by decide +kernel
theorem d_Am_ceilingTo_17 : decode b_Am_ceilingTo 17 = .ok (.dload_n 2, 1) := by decide +kernel
theorem d_Am_ceilingTo_18 : decode b_Am_ceilingTo 18 = .ok (.dconst 0, 1) := by decide +kernel
theorem d_Am_ceilingTo_19 : decode b_Am_ceilingTo 19 = .ok (.dcmp .g, 1) := by decide +kernel
theorem d_Am_ceilingTo_20 : decode b_Am_ceilingTo 20 = .ok (.ifCond .ge 11, 3) := by decide +kernel
theorem d_Am_ceilingTo_23 : decode b_Am_ceilingTo 23 = .ok (.bipush 6, 2) := by decide +kernel
theorem d_Am_ceilingTo_25 : decode b_Am_ceilingTo 25 = .ok (.invokestatic 80, 3) := by decide +kernel
theorem d_Am_ceilingTo_28 : decode b_Am_ceilingTo 28 = .ok (.goto 11, 3) := by decide +kernel
theorem d_Am_ceilingTo_31 : decode b_Am_ceilingTo 31 = .ok (.dload_n 2, 1) := by decide +kernel
theorem d_Am_ceilingTo_32 : decode b_Am_ceilingTo 32 = .ok (.dload_n 0, 1) := by decide +kernel
theorem d_Am_ceilingTo_33 : decode b_Am_ceilingTo 33 = .ok (.dload_n 2, 1) := by decide +kernel
theorem d_Am_ceilingTo_34 : decode b_Am_ceilingTo 34 = .ok (.ddiv, 1) := by decide +kernel
theorem d_Am_ceilingTo_35 : decode b_Am_ceilingTo 35 = .ok (.iconst 1, 1) := by decide +kernel
theorem d_Am_ceilingTo_36 : decode b_Am_ceilingTo 36 = .ok (.invokestatic 131, 3) := by decide +kernel
theorem d_Am_ceilingTo_39 : decode b_Am_ceilingTo 39 = .ok (.areturn, 1) := by decide +kernel
theorem p_Am_ceilingTo_b39 (d : Nat)  (s0 : Option Nat) (h : gk_H) : gk_P gw_R (d + 4) y_Am_ceilingTo b_Am_ceilingTo 4 (some (.object "ValueAlgebra$Value")) [] (f_Am_ceilingTo_b39  s0 h) 39 [] [va_rf s0] h := by
  unfold f_Am_ceilingTo_b39
  exact gk_aret (pc := 39) rfl d_Am_ceilingTo_39 rfl (Or.inl ⟨_, rfl⟩)
theorem p_Am_ceilingTo_b31 (d : Nat)  (v0 : UInt64) (v2 : UInt64) (h : gk_H) : gk_P gw_R (d + 4) y_Am_ceilingTo b_Am_ceilingTo 4 (some (.object "ValueAlgebra$Value")) [] (f_Am_ceilingTo_b31  v0 v2 h) 31 [(0, .double v0), (2, .double v2)] [] h := by
  unfold f_Am_ceilingTo_b31
  refine gk_dload_n (pc := 31) 1 d_Am_ceilingTo_31 rfl ?_
  refine gk_dload_n (pc := 32) 0 d_Am_ceilingTo_32 rfl ?_
  refine gk_dload_n (pc := 33) 1 d_Am_ceilingTo_33 rfl ?_
  refine gk_ddivN (pc := 34) d_Am_ceilingTo_34 fun x1 => ?_
  refine gk_iconst (pc := 35) (1 : Int32) d_Am_ceilingTo_35 rfl ?_
  refine gk_callS (pc := 36) (d := (d + 3)) (w' := gv_R) (as := [.double v2, .double x1, .int (1 : Int32)]) (n := 3) d_Am_ceilingTo_36 rfl rfl (Nat.le_of_ble_eq_true rfl) tw_1279 tw_1280 tw_117 cw_Am_timesWhole hy_Am_timesWhole (Nat.le_of_ble_eq_true rfl) (p_Am_timesWhole d v2 x1 (1 : Int32) h) fun x2 h1 => ?_
  refine gk_weak [] (L' := []) rfl ?_
  exact p_Am_ceilingTo_b39 d x2 h1
theorem w_Am_ceilingTo (d : Nat) (a0 : UInt64) (a1 : UInt64) (h : gk_H) : gk_P gw_R (d + 4) y_Am_ceilingTo b_Am_ceilingTo 4 (some (.object "ValueAlgebra$Value")) [] (f_Am_ceilingTo a0 a1 h) 0 [(0, .double a0), (2, .double a1)] [] h := by
  unfold f_Am_ceilingTo
  refine gk_dload_n (pc := 0) 1 d_Am_ceilingTo_0 rfl ?_
  refine gk_dconst0 (pc := 1) d_Am_ceilingTo_1 ?_
  refine gk_dcmp (pc := 2) d_Am_ceilingTo_2 ?_
  refine gk_if_ne (pc := 3) 11 d_Am_ceilingTo_3 rfl (fun _ => ?_) (fun _ => ?_)
  · refine gk_dconst0 (pc := 6) d_Am_ceilingTo_6 ?_
    refine gk_callS (pc := 7) (d := (d + 3)) (w' := gv_R) (as := [.double (0x0000000000000000)]) (n := 1) d_Am_ceilingTo_7 rfl rfl (Nat.le_of_ble_eq_true rfl) tw_1004 tw_317 tw_97 cw_Va_ofNumber hy_Va_ofNumber (Nat.le_of_ble_eq_true rfl) (p_Va_ofNumber (d + 1) (0x0000000000000000) h) fun x1 h1 => ?_
    exact gk_aret (pc := 10) rfl d_Am_ceilingTo_10 rfl (Or.inl ⟨_, rfl⟩)
  · refine gk_dload_n (pc := 11) 0 d_Am_ceilingTo_11 rfl ?_
    refine gk_dconst0 (pc := 12) d_Am_ceilingTo_12 ?_
    refine gk_dcmp (pc := 13) d_Am_ceilingTo_13 ?_
    refine gk_if_le (pc := 14) 31 d_Am_ceilingTo_14 rfl (fun _ => ?_) (fun _ => ?_)
    · exact p_Am_ceilingTo_b31 d a0 a1 h
    · refine gk_dload_n (pc := 17) 1 d_Am_ceilingTo_17 rfl ?_
      refine gk_dconst0 (pc := 18) d_Am_ceilingTo_18 ?_
      refine gk_dcmp (pc := 19) d_Am_ceilingTo_19 ?_
      refine gk_if_ge (pc := 20) 31 d_Am_ceilingTo_20 rfl (fun _ => ?_) (fun _ => ?_)
      · exact p_Am_ceilingTo_b31 d a0 a1 h
      · refine gk_bipush (pc := 23) (6 : Int32) d_Am_ceilingTo_23 rfl ?_
        refine gk_callS (pc := 25) (d := (d + 3)) (w' := gv_R) (as := [.int (6 : Int32)]) (n := 1) d_Am_ceilingTo_25 rfl rfl (Nat.le_of_ble_eq_true rfl) tw_996 tw_236 tw_97 cw_Va_ofError hy_Va_ofError (Nat.le_of_ble_eq_true rfl) (p_Va_ofError (d + 1) (6 : Int32) h) fun x2 h2 => ?_
        refine gk_goto (pc := 28) 39 d_Am_ceilingTo_28 rfl ?_
        refine gk_weak [] (L' := []) rfl ?_
        exact p_Am_ceilingTo_b39 d x2 h2
theorem p_Am_ceilingTo (d : Nat) (a0 : UInt64) (a1 : UInt64) (h : gk_H) : ∀ r h1, f_Am_ceilingTo a0 a1 h = some (r, h1) → gk_M (d + 4) y_Am_ceilingTo b_Am_ceilingTo 4 (some (.object "ValueAlgebra$Value")) [.double a0, .double a1] h (.inl (gv_R r)) h1 :=
  fun r h1 e => gk_M_of2 (by decide +kernel) (by simp [lv_args, gk_cat_rf, gk_catI, gk_catJ, gk_catD, gv_V, gv_I, gv_J, gv_D, gv_R]) (by simp [lg_sl, gk_cat_rf, gk_catI, gk_catJ, gk_catD, gv_V, gv_I, gv_J, gv_D, gv_R]) (w_Am_ceilingTo d a0 a1 h r h1 e)
theorem d_Am_sign_0 : decode b_Am_sign 0 = .ok (.dload_n 0, 1) := by decide +kernel
theorem d_Am_sign_1 : decode b_Am_sign 1 = .ok (.dconst 0, 1) := by decide +kernel
theorem d_Am_sign_2 : decode b_Am_sign 2 = .ok (.dcmp .g, 1) := by decide +kernel
theorem d_Am_sign_3 : decode b_Am_sign 3 = .ok (.ifCond .ge 7, 3) := by decide +kernel
theorem d_Am_sign_6 : decode b_Am_sign 6 = .ok (.iconst (-1), 1) := by decide +kernel
theorem d_Am_sign_7 : decode b_Am_sign 7 = .ok (.goto 14, 3) := by decide +kernel
theorem d_Am_sign_10 : decode b_Am_sign 10 = .ok (.dload_n 0, 1) := by decide +kernel
theorem d_Am_sign_11 : decode b_Am_sign 11 = .ok (.dconst 0, 1) := by decide +kernel
theorem d_Am_sign_12 : decode b_Am_sign 12 = .ok (.dcmp .l, 1) := by decide +kernel
theorem d_Am_sign_13 : decode b_Am_sign 13 = .ok (.ifCond .le 7, 3) := by decide +kernel
theorem d_Am_sign_16 : decode b_Am_sign 16 = .ok (.iconst 1, 1) := by decide +kernel
theorem d_Am_sign_17 : decode b_Am_sign 17 = .ok (.goto 4, 3) := by decide +kernel
theorem d_Am_sign_20 : decode b_Am_sign 20 = .ok (.iconst 0, 1) := by decide +kernel
theorem d_Am_sign_21 : decode b_Am_sign 21 = .ok (.ireturn, 1) := by decide +kernel
theorem p_Am_sign_b21 (d : Nat)  (s0 : Int32) (h : gk_H) : gk_P gw_I d y_Am_sign b_Am_sign 2 (some .int) [] (f_Am_sign_b21  s0 h) 21 [] [.int s0] h := by
  unfold f_Am_sign_b21
  exact gk_iret (pc := 21) rfl d_Am_sign_21 rfl
theorem w_Am_sign (d : Nat) (a0 : UInt64) (h : gk_H) : gk_P gw_I d y_Am_sign b_Am_sign 2 (some .int) [] (f_Am_sign a0 h) 0 [(0, .double a0)] [] h := by
  unfold f_Am_sign
  refine gk_dload_n (pc := 0) 0 d_Am_sign_0 rfl ?_
  refine gk_dconst0 (pc := 1) d_Am_sign_1 ?_
  refine gk_dcmp (pc := 2) d_Am_sign_2 ?_
  refine gk_if_ge (pc := 3) 10 d_Am_sign_3 rfl (fun _ => ?_) (fun _ => ?_)
  · refine gk_dload_n (pc := 10) 0 d_Am_sign_10 rfl ?_
    refine gk_dconst0 (pc := 11) d_Am_sign_11 ?_
    refine gk_dcmp (pc := 12) d_Am_sign_12 ?_
    refine gk_if_le (pc := 13) 20 d_Am_sign_13 rfl (fun _ => ?_) (fun _ => ?_)
    · refine gk_iconst (pc := 20) (0 : Int32) d_Am_sign_20 rfl ?_
      refine gk_weak [] (L' := []) rfl ?_
      exact p_Am_sign_b21 d (0 : Int32) h
    · refine gk_iconst (pc := 16) (1 : Int32) d_Am_sign_16 rfl ?_
      refine gk_goto (pc := 17) 21 d_Am_sign_17 rfl ?_
      refine gk_weak [] (L' := []) rfl ?_
      exact p_Am_sign_b21 d (1 : Int32) h
  · refine gk_iconst (pc := 6) (-1 : Int32) d_Am_sign_6 rfl ?_
    refine gk_goto (pc := 7) 21 d_Am_sign_7 rfl ?_
    refine gk_weak [] (L' := []) rfl ?_
    exact p_Am_sign_b21 d (-1 : Int32) h
theorem p_Am_sign (d : Nat) (a0 : UInt64) (h : gk_H) : ∀ r h1, f_Am_sign a0 h = some (r, h1) → gk_M d y_Am_sign b_Am_sign 2 (some .int) [.double a0] h (.inl (gv_I r)) h1 :=
  fun r h1 e => gk_M_of2 (by decide +kernel) (by simp [lv_args, gk_cat_rf, gk_catI, gk_catJ, gk_catD, gv_V, gv_I, gv_J, gv_D, gv_R]) (by simp [lg_sl, gk_cat_rf, gk_catI, gk_catJ, gk_catD, gv_V, gv_I, gv_J, gv_D, gv_R]) (w_Am_sign d a0 h r h1 e)
theorem d_Am_odd_0 : decode b_Am_odd 0 = .ok (.dload_n 0, 1) := by decide +kernel
theorem d_Am_odd_1 : decode b_Am_odd 1 = .ok (.invokestatic 88, 3) := by decide +kernel
theorem d_Am_odd_4 : decode b_Am_odd 4 = .ok (.ifCond .ne 14, 3) := by decide +kernel
theorem d_Am_odd_7 : decode b_Am_odd 7 = .ok (.dload_n 0, 1) := by decide +kernel
theorem d_Am_odd_8 : decode b_Am_odd 8 = .ok (.dload_n 0, 1) := by decide +kernel
theorem d_Am_odd_9 : decode b_Am_odd 9 = .ok (.invokestatic 25, 3) := by decide +kernel
theorem d_Am_odd_12 : decode b_Am_odd 12 = .ok (.i2d, 1) := by decide +kernel
theorem d_Am_odd_13 : decode b_Am_odd 13 = .ok (.dadd, 1) := by decide +kernel
theorem d_Am_odd_14 : decode b_Am_odd 14 = .ok (.invokestatic 19, 3) := by decide +kernel
theorem d_Am_odd_17 : decode b_Am_odd 17 = .ok (.areturn, 1) := by decide +kernel
theorem d_Am_odd_18 : decode b_Am_odd 18 = .ok (.dload_n 0, 1) := by decide +kernel
theorem d_Am_odd_19 : decode b_Am_odd 19 = .ok (.invokestatic 13, 3) := by decide +kernel
theorem d_Am_odd_22 : decode b_Am_odd 22 = .ok (.invokestatic 126, 3) := by decide +kernel
theorem d_Am_odd_25 : decode b_Am_odd 25 = .ok (.d2l, 1) := by decide +kernel
theorem d_Am_odd_26 : decode b_Am_odd 26 = .ok (.lstore_n 2, 1) := by decide +kernel
theorem d_Am_odd_27 : decode b_Am_odd 27 = .ok (.lload_n 2, 1) := by decide +kernel
theorem d_Am_odd_28 : decode b_Am_odd 28 = .ok (.lconst 1, 1) := by decide +kernel
theorem d_Am_odd_29 : decode b_Am_odd 29 = .ok (.ladd, 1) := by decide +kernel
theorem d_Am_odd_30 : decode b_Am_odd 30 = .ok (.lload_n 2, 1) := by decide +kernel
theorem d_Am_odd_31 : decode b_Am_odd 31 = .ok (.ldc2_w 129, 3) := by decide +kernel
theorem d_Am_odd_34 : decode b_Am_odd 34 = .ok (.lrem, 1) := by decide +kernel
theorem d_Am_odd_35 : decode b_Am_odd 35 = .ok (.lsub, 1) := by decide +kernel
theorem d_Am_odd_36 : decode b_Am_odd 36 = .ok (.l2d, 1) := by decide +kernel
theorem d_Am_odd_37 : decode b_Am_odd 37 = .ok (.dstore 4, 2) := by decide +kernel
theorem d_Am_odd_39 : decode b_Am_odd 39 = .ok (.dload_n 0, 1) := by decide +kernel
theorem d_Am_odd_40 : decode b_Am_odd 40 = .ok (.dconst 0, 1) := by decide +kernel
theorem d_Am_odd_41 : decode b_Am_odd 41 = .ok (.dcmp .g, 1) := by decide +kernel
theorem d_Am_odd_42 : decode b_Am_odd 42 = .ok (.ifCond .ge 10, 3) := by decide +kernel
theorem d_Am_odd_45 : decode b_Am_odd 45 = .ok (.dconst 0, 1) := by decide +kernel
theorem d_Am_odd_46 : decode b_Am_odd 46 = .ok (.dload 4, 2) := by decide +kernel
theorem d_Am_odd_48 : decode b_Am_odd 48 = .ok (.dsub, 1) := by decide +kernel
theorem d_Am_odd_49 : decode b_Am_odd 49 = .ok (.goto 5, 3) := by decide +kernel
theorem d_Am_odd_52 : decode b_Am_odd 52 = .ok (.dload 4, 2) := by decide +kernel
theorem d_Am_odd_54 : decode b_Am_odd 54 = .ok (.invokestatic 19, 3) := by decide +kernel
theorem d_Am_odd_57 : decode b_Am_odd 57 = .ok (.areturn, 1) := by decide +kernel
theorem p_Am_odd_b54 (d : Nat)  (s0 : UInt64) (h : gk_H) : gk_P gw_R (d + 3) y_Am_odd b_Am_odd 6 (some (.object "ValueAlgebra$Value")) [] (f_Am_odd_b54  s0 h) 54 [] [.double s0] h := by
  unfold f_Am_odd_b54
  refine gk_callS (pc := 54) (d := (d + 2)) (w' := gv_R) (as := [.double s0]) (n := 1) d_Am_odd_54 rfl rfl (Nat.le_of_ble_eq_true rfl) tw_1004 tw_317 tw_97 cw_Va_ofNumber hy_Va_ofNumber (Nat.le_of_ble_eq_true rfl) (p_Va_ofNumber d s0 h) fun x1 h1 => ?_
  exact gk_aret (pc := 57) rfl d_Am_odd_57 rfl (Or.inl ⟨_, rfl⟩)
theorem w_Am_odd (d : Nat) (a0 : UInt64) (h : gk_H) : gk_P gw_R (d + 3) y_Am_odd b_Am_odd 6 (some (.object "ValueAlgebra$Value")) [] (f_Am_odd a0 h) 0 [(0, .double a0)] [] h := by
  unfold f_Am_odd
  refine gk_dload_n (pc := 0) 0 d_Am_odd_0 rfl ?_
  refine gk_callS (pc := 1) (d := (d + 2)) (w' := gv_I) (as := [.double a0]) (n := 1) d_Am_odd_1 rfl rfl (Nat.le_of_ble_eq_true rfl) tw_905 tw_906 tw_117 cw_Am_isWithinWhole hy_Am_isWithinWhole (Nat.le_of_ble_eq_true rfl) (p_Am_isWithinWhole (d + 2) a0 h) fun x1 h1 => ?_
  refine gk_if_ne (pc := 4) 18 d_Am_odd_4 rfl (fun _ => ?_) (fun _ => ?_)
  · refine gk_dload_n (pc := 7) 0 d_Am_odd_7 rfl ?_
    refine gk_dload_n (pc := 8) 0 d_Am_odd_8 rfl ?_
    refine gk_callS (pc := 9) (d := (d + 2)) (w' := gv_I) (as := [.double a0]) (n := 1) d_Am_odd_9 rfl rfl (Nat.le_of_ble_eq_true rfl) tw_1233 tw_1234 tw_117 cw_Am_sign hy_Am_sign (Nat.le_of_ble_eq_true rfl) (p_Am_sign (d + 2) a0 h1) fun x2 h2 => ?_
    refine gk_i2d (pc := 12) d_Am_odd_12 ?_
    refine gk_daddN (pc := 13) d_Am_odd_13 fun x3 => ?_
    refine gk_callS (pc := 14) (d := (d + 2)) (w' := gv_R) (as := [.double x3]) (n := 1) d_Am_odd_14 rfl rfl (Nat.le_of_ble_eq_true rfl) tw_1004 tw_317 tw_97 cw_Va_ofNumber hy_Va_ofNumber (Nat.le_of_ble_eq_true rfl) (p_Va_ofNumber d x3 h2) fun x4 h3 => ?_
    exact gk_aret (pc := 17) rfl d_Am_odd_17 rfl (Or.inl ⟨_, rfl⟩)
  · refine gk_dload_n (pc := 18) 0 d_Am_odd_18 rfl ?_
    refine gk_callS (pc := 19) (d := (d + 2)) (w' := gv_D) (as := [.double a0]) (n := 1) d_Am_odd_19 rfl rfl (Nat.le_of_ble_eq_true rfl) tw_997 tw_998 tw_117 cw_Am_sizeOf hy_Am_sizeOf (Nat.le_of_ble_eq_true rfl) (p_Am_sizeOf (d + 2) a0 h1) fun x5 h4 => ?_
    refine gk_callS (pc := 22) (d := (d + 2)) (w' := gv_D) (as := [.double x5]) (n := 1) d_Am_odd_22 rfl rfl (Nat.le_of_ble_eq_true rfl) tw_1269 tw_1270 tw_117 cw_Am_ceiling hy_Am_ceiling (Nat.le_of_ble_eq_true rfl) (p_Am_ceiling d x5 h4) fun x6 h5 => ?_
    refine gk_d2l (pc := 25) d_Am_odd_25 ?_
    refine gk_topJ (pc := 26) fun x7 => ?_
    refine gk_lstore_n (pc := 26) (L' := [(2, .long x7), (0, .double a0)]) d_Am_odd_26 (Nat.le_of_ble_eq_true rfl) rfl ?_
    refine gk_lload_n (pc := 27) 0 d_Am_odd_27 rfl ?_
    refine gk_lconst (pc := 28) (1 : Int64) d_Am_odd_28 rfl ?_
    refine gk_ladd (pc := 29) d_Am_odd_29 ?_
    refine gk_lload_n (pc := 30) 0 d_Am_odd_30 rfl ?_
    refine gk_ldc2 (pc := 31) tw_1272 d_Am_odd_31 ?_
    refine gk_lrem (pc := 34) (by decide) d_Am_odd_34 ?_
    refine gk_lsub (pc := 35) d_Am_odd_35 ?_
    refine gk_l2d (pc := 36) d_Am_odd_36 ?_
    refine gk_topD (pc := 37) fun x8 => ?_
    refine gk_dstore (pc := 37) (L' := [(4, .double x8), (2, .long x7), (0, .double a0)]) d_Am_odd_37 (Nat.le_of_ble_eq_true rfl) rfl ?_
    refine gk_dload_n (pc := 39) 2 d_Am_odd_39 rfl ?_
    refine gk_dconst0 (pc := 40) d_Am_odd_40 ?_
    refine gk_dcmp (pc := 41) d_Am_odd_41 ?_
    refine gk_if_ge (pc := 42) 52 d_Am_odd_42 rfl (fun _ => ?_) (fun _ => ?_)
    · refine gk_dload (pc := 52) 0 d_Am_odd_52 rfl ?_
      refine gk_weak [] (L' := []) rfl ?_
      exact p_Am_odd_b54 d x8 h5
    · refine gk_dconst0 (pc := 45) d_Am_odd_45 ?_
      refine gk_dload (pc := 46) 0 d_Am_odd_46 rfl ?_
      refine gk_dsubN (pc := 48) d_Am_odd_48 fun x9 => ?_
      refine gk_goto (pc := 49) 54 d_Am_odd_49 rfl ?_
      refine gk_weak [] (L' := []) rfl ?_
      exact p_Am_odd_b54 d x9 h5
theorem p_Am_odd (d : Nat) (a0 : UInt64) (h : gk_H) : ∀ r h1, f_Am_odd a0 h = some (r, h1) → gk_M (d + 3) y_Am_odd b_Am_odd 6 (some (.object "ValueAlgebra$Value")) [.double a0] h (.inl (gv_R r)) h1 :=
  fun r h1 e => gk_M_of2 (by decide +kernel) (by simp [lv_args, gk_cat_rf, gk_catI, gk_catJ, gk_catD, gv_V, gv_I, gv_J, gv_D, gv_R]) (by simp [lg_sl, gk_cat_rf, gk_catI, gk_catJ, gk_catD, gv_V, gv_I, gv_J, gv_D, gv_R]) (w_Am_odd d a0 h r h1 e)
theorem d_Am_even_0 : decode b_Am_even 0 = .ok (.dload_n 0, 1) := by decide +kernel
theorem d_Am_even_1 : decode b_Am_even 1 = .ok (.invokestatic 88, 3) := by decide +kernel
theorem d_Am_even_4 : decode b_Am_even 4 = .ok (.ifCond .ne 8, 3) := by decide +kernel
theorem d_Am_even_7 : decode b_Am_even 7 = .ok (.dload_n 0, 1) := by decide +kernel
theorem d_Am_even_8 : decode b_Am_even 8 = .ok (.invokestatic 19, 3) := by decide +kernel
theorem d_Am_even_11 : decode b_Am_even 11 = .ok (.areturn, 1) := by decide +kernel
theorem d_Am_even_12 : decode b_Am_even 12 = .ok (.dload_n 0, 1) := by decide +kernel
theorem d_Am_even_13 : decode b_Am_even 13 = .ok (.invokestatic 13, 3) := by decide +kernel
theorem d_Am_even_16 : decode b_Am_even 16 = .ok (.invokestatic 126, 3) := by decide +kernel
theorem d_Am_even_19 : decode b_Am_even 19 = .ok (.d2l, 1) := by decide +kernel
theorem d_Am_even_20 : decode b_Am_even 20 = .ok (.lstore_n 2, 1) := by decide +kernel
theorem d_Am_even_21 : decode b_Am_even 21 = .ok (.dload_n 0, 1) := by decide +kernel
theorem d_Am_even_22 : decode b_Am_even 22 = .ok (.invokestatic 25, 3) := by decide +kernel
theorem d_Am_even_25 : decode b_Am_even 25 = .ok (.i2d, 1) := by decide +kernel
theorem d_Am_even_26 : decode b_Am_even 26 = .ok (.lload_n 2, 1) := by decide +kernel
theorem d_Am_even_27 : decode b_Am_even 27 = .ok (.lload_n 2, 1) := by decide +kernel
theorem d_Am_even_28 : decode b_Am_even 28 = .ok (.ldc2_w 129, 3) := by decide +kernel
theorem d_Am_even_31 : decode b_Am_even 31 = .ok (.lrem, 1) := by decide +kernel
theorem d_Am_even_32 : decode b_Am_even 32 = .ok (.ladd, 1) := by decide +kernel
theorem d_Am_even_33 : decode b_Am_even 33 = .ok (.l2d, 1) := by decide +kernel
theorem d_Am_even_34 : decode b_Am_even 34 = .ok (.dmul, 1) := by decide +kernel
theorem d_Am_even_35 : decode b_Am_even 35 = .ok (.invokestatic 19, 3) := by decide +kernel
theorem d_Am_even_38 : decode b_Am_even 38 = .ok (.areturn, 1) := by decide +kernel
theorem w_Am_even (d : Nat) (a0 : UInt64) (h : gk_H) : gk_P gw_R (d + 3) y_Am_even b_Am_even 4 (some (.object "ValueAlgebra$Value")) [] (f_Am_even a0 h) 0 [(0, .double a0)] [] h := by
  unfold f_Am_even
  refine gk_dload_n (pc := 0) 0 d_Am_even_0 rfl ?_
  refine gk_callS (pc := 1) (d := (d + 2)) (w' := gv_I) (as := [.double a0]) (n := 1) d_Am_even_1 rfl rfl (Nat.le_of_ble_eq_true rfl) tw_905 tw_906 tw_117 cw_Am_isWithinWhole hy_Am_isWithinWhole (Nat.le_of_ble_eq_true rfl) (p_Am_isWithinWhole (d + 2) a0 h) fun x1 h1 => ?_
  refine gk_if_ne (pc := 4) 12 d_Am_even_4 rfl (fun _ => ?_) (fun _ => ?_)
  · refine gk_dload_n (pc := 7) 0 d_Am_even_7 rfl ?_
    refine gk_callS (pc := 8) (d := (d + 2)) (w' := gv_R) (as := [.double a0]) (n := 1) d_Am_even_8 rfl rfl (Nat.le_of_ble_eq_true rfl) tw_1004 tw_317 tw_97 cw_Va_ofNumber hy_Va_ofNumber (Nat.le_of_ble_eq_true rfl) (p_Va_ofNumber d a0 h1) fun x2 h2 => ?_
    exact gk_aret (pc := 11) rfl d_Am_even_11 rfl (Or.inl ⟨_, rfl⟩)
  · refine gk_dload_n (pc := 12) 0 d_Am_even_12 rfl ?_
    refine gk_callS (pc := 13) (d := (d + 2)) (w' := gv_D) (as := [.double a0]) (n := 1) d_Am_even_13 rfl rfl (Nat.le_of_ble_eq_true rfl) tw_997 tw_998 tw_117 cw_Am_sizeOf hy_Am_sizeOf (Nat.le_of_ble_eq_true rfl) (p_Am_sizeOf (d + 2) a0 h1) fun x3 h3 => ?_
    refine gk_callS (pc := 16) (d := (d + 2)) (w' := gv_D) (as := [.double x3]) (n := 1) d_Am_even_16 rfl rfl (Nat.le_of_ble_eq_true rfl) tw_1269 tw_1270 tw_117 cw_Am_ceiling hy_Am_ceiling (Nat.le_of_ble_eq_true rfl) (p_Am_ceiling d x3 h3) fun x4 h4 => ?_
    refine gk_d2l (pc := 19) d_Am_even_19 ?_
    refine gk_topJ (pc := 20) fun x5 => ?_
    refine gk_lstore_n (pc := 20) (L' := [(2, .long x5), (0, .double a0)]) d_Am_even_20 (Nat.le_of_ble_eq_true rfl) rfl ?_
    refine gk_dload_n (pc := 21) 1 d_Am_even_21 rfl ?_
    refine gk_callS (pc := 22) (d := (d + 2)) (w' := gv_I) (as := [.double a0]) (n := 1) d_Am_even_22 rfl rfl (Nat.le_of_ble_eq_true rfl) tw_1233 tw_1234 tw_117 cw_Am_sign hy_Am_sign (Nat.le_of_ble_eq_true rfl) (p_Am_sign (d + 2) a0 h4) fun x6 h5 => ?_
    refine gk_i2d (pc := 25) d_Am_even_25 ?_
    refine gk_lload_n (pc := 26) 0 d_Am_even_26 rfl ?_
    refine gk_lload_n (pc := 27) 0 d_Am_even_27 rfl ?_
    refine gk_ldc2 (pc := 28) tw_1272 d_Am_even_28 ?_
    refine gk_lrem (pc := 31) (by decide) d_Am_even_31 ?_
    refine gk_ladd (pc := 32) d_Am_even_32 ?_
    refine gk_l2d (pc := 33) d_Am_even_33 ?_
    refine gk_dmulN (pc := 34) d_Am_even_34 fun x7 => ?_
    refine gk_callS (pc := 35) (d := (d + 2)) (w' := gv_R) (as := [.double x7]) (n := 1) d_Am_even_35 rfl rfl (Nat.le_of_ble_eq_true rfl) tw_1004 tw_317 tw_97 cw_Va_ofNumber hy_Va_ofNumber (Nat.le_of_ble_eq_true rfl) (p_Va_ofNumber d x7 h5) fun x8 h6 => ?_
    exact gk_aret (pc := 38) rfl d_Am_even_38 rfl (Or.inl ⟨_, rfl⟩)
theorem p_Am_even (d : Nat) (a0 : UInt64) (h : gk_H) : ∀ r h1, f_Am_even a0 h = some (r, h1) → gk_M (d + 3) y_Am_even b_Am_even 4 (some (.object "ValueAlgebra$Value")) [.double a0] h (.inl (gv_R r)) h1 :=
  fun r h1 e => gk_M_of2 (by decide +kernel) (by simp [lv_args, gk_cat_rf, gk_catI, gk_catJ, gk_catD, gv_V, gv_I, gv_J, gv_D, gv_R]) (by simp [lg_sl, gk_cat_rf, gk_catI, gk_catJ, gk_catD, gv_V, gv_I, gv_J, gv_D, gv_R]) (w_Am_even d a0 h r h1 e)
theorem d_Am_combinations_0 : decode b_Am_combinations 0 = .ok (.lload_n 2, 1) := by decide +kernel
theorem d_Am_combinations_1 : decode b_Am_combinations 1 = .ok (.lconst 0, 1) := by decide +kernel
theorem d_Am_combinations_2 : decode b_Am_combinations 2 = .ok (.lcmp, 1) := by decide +kernel
theorem d_Am_combinations_3 : decode b_Am_combinations 3 = .ok (.ifCond .lt 17, 3) := by decide +kernel
theorem d_Am_combinations_6 : decode b_Am_combinations 6 = .ok (.lload_n 2, 1) := by decide +kernel
theorem d_Am_combinations_7 : decode b_Am_combinations 7 = .ok (.lload_n 0, 1) := by decide +kernel
theorem d_Am_combinations_8 : decode b_Am_combinations 8 = .ok (.lcmp, 1) := by decide +kernel
theorem d_Am_combinations_9 : decode b_Am_combinations 9 = .ok (.ifCond .gt 11, 3) := by decide +kernel
theorem d_Am_combinations_12 : decode b_Am_combinations 12 = .ok (.lload_n 0, 1) := by decide +kernel
theorem d_Am_combinations_13 : decode b_Am_combinations 13 = .ok (.ldc2_w 124, 3) := by decide +kernel
theorem d_Am_combinations_16 : decode b_Am_combinations 16 = .ok (.lcmp, 1) := by decide +kernel
theorem d_Am_combinations_17 : decode b_Am_combinations 17 = .ok (.ifCond .le 9, 3) := by decide +kernel
theorem d_Am_combinations_20 : decode b_Am_combinations 20 = .ok (.bipush 6, 2) := by decide +kernel
theorem d_Am_combinations_22 : decode b_Am_combinations 22 = .ok (.invokestatic 80, 3) := by decide +kernel
theorem d_Am_combinations_25 : decode b_Am_combinations 25 = .ok (.areturn, 1) := by decide +kernel
theorem d_Am_combinations_26 : decode b_Am_combinations 26 = .ok (.dconst 1, 1) := by decide +kernel
theorem d_Am_combinations_27 : decode b_Am_combinations 27 = .ok (.dstore 4, 2) := by decide +kernel
theorem d_Am_combinations_29 : decode b_Am_combinations 29 = .ok (.iconst 1, 1) := by decide +kernel
theorem d_Am_combinations_30 : decode b_Am_combinations 30 = .ok (.istore 6, 2) := by decide +kernel
theorem d_Am_combinations_32 : decode b_Am_combinations 32 = .ok (.iload 6, 2) := by decide +kernel
theorem d_Am_combinations_34 : decode b_Am_combinations 34 = .ok (.i2l, 1) := by decide +kernel
theorem d_Am_combinations_35 : decode b_Am_combinations 35 = .ok (.lload_n 2, 1) := by decide +kernel
theorem d_Am_combinations_36 : decode b_Am_combinations 36 = .ok (.lcmp, 1) := by decide +kernel
theorem d_Am_combinations_37 : decode b_Am_combinations 37 = .ok (.ifCond .gt 30, 3) := by decide +kernel
theorem d_Am_combinations_40 : decode b_Am_combinations 40 = .ok (.dload 4, 2) := by decide +kernel
theorem d_Am_combinations_42 : decode b_Am_combinations 42 = .ok (.lload_n 0, 1) := by decide +kernel
theorem d_Am_combinations_43 : decode b_Am_combinations 43 = .ok (.lload_n 2, 1) := by decide +kernel
theorem d_Am_combinations_44 : decode b_Am_combinations 44 = .ok (.lsub, 1) := by decide +kernel
theorem d_Am_combinations_45 : decode b_Am_combinations 45 = .ok (.iload 6, 2) := by decide +kernel
theorem d_Am_combinations_47 : decode b_Am_combinations 47 = .ok (.i2l, 1) := by decide +kernel
theorem d_Am_combinations_48 : decode b_Am_combinations 48 = .ok (.ladd, 1) := by decide +kernel
theorem d_Am_combinations_49 : decode b_Am_combinations 49 = .ok (.l2d, 1) := by decide +kernel
theorem d_Am_combinations_50 : decode b_Am_combinations 50 = .ok (.dmul, 1) := by decide +kernel
theorem d_Am_combinations_51 : decode b_Am_combinations 51 = .ok (.dstore 4, 2) := by decide +kernel
theorem d_Am_combinations_53 : decode b_Am_combinations 53 = .ok (.dload 4, 2) := by decide +kernel
theorem d_Am_combinations_55 : decode b_Am_combinations 55 = .ok (.iload 6, 2) := by decide +kernel
theorem d_Am_combinations_57 : decode b_Am_combinations 57 = .ok (.i2d, 1) := by decide +kernel
theorem d_Am_combinations_58 : decode b_Am_combinations 58 = .ok (.ddiv, 1) := by decide +kernel
theorem d_Am_combinations_59 : decode b_Am_combinations 59 = .ok (.dstore 4, 2) := by decide +kernel
theorem d_Am_combinations_61 : decode b_Am_combinations 61 = .ok (.iinc 6 1, 3) := by decide +kernel
theorem d_Am_combinations_64 : decode b_Am_combinations 64 = .ok (.goto (-32), 3) := by decide +kernel
theorem d_Am_combinations_67 : decode b_Am_combinations 67 = .ok (.dload 4, 2) := by decide +kernel
theorem d_Am_combinations_69 : decode b_Am_combinations 69 = .ok (.invokestatic 19, 3) := by decide +kernel
theorem d_Am_combinations_72 : decode b_Am_combinations 72 = .ok (.areturn, 1) := by decide +kernel
theorem p_Am_combinations_b20 (d : Nat)   (h : gk_H) : gk_P gw_R (d + 3) y_Am_combinations b_Am_combinations 7 (some (.object "ValueAlgebra$Value")) [] (f_Am_combinations_b20   h) 20 [] [] h := by
  unfold f_Am_combinations_b20
  refine gk_bipush (pc := 20) (6 : Int32) d_Am_combinations_20 rfl ?_
  refine gk_callS (pc := 22) (d := (d + 2)) (w' := gv_R) (as := [.int (6 : Int32)]) (n := 1) d_Am_combinations_22 rfl rfl (Nat.le_of_ble_eq_true rfl) tw_996 tw_236 tw_97 cw_Va_ofError hy_Va_ofError (Nat.le_of_ble_eq_true rfl) (p_Va_ofError d (6 : Int32) h) fun x1 h1 => ?_
  exact gk_aret (pc := 25) rfl d_Am_combinations_25 rfl (Or.inl ⟨_, rfl⟩)
theorem p_Am_combinations_b32 (d : Nat)  : ∀ (fu : Nat) (v0 : Int64) (v2 : Int64) (v4 : UInt64) (v6 : Int32) (h : gk_H), gk_P gw_R (d + 3) y_Am_combinations b_Am_combinations 7 (some (.object "ValueAlgebra$Value")) [] (f_Am_combinations_b32  fu v0 v2 v4 v6 h) 32 [(0, .long v0), (2, .long v2), (4, .double v4), (6, .int v6)] [] h := by
  intro fu
  induction fu with
  | zero => intros; exact gk_none
  | succ fu q32 =>
    intro v0 v2 v4 v6 h
    rw [f_Am_combinations_b32]
    refine gk_iload (pc := 32) 3 d_Am_combinations_32 rfl ?_
    refine gk_i2l (pc := 34) d_Am_combinations_34 ?_
    refine gk_lload_n (pc := 35) 1 d_Am_combinations_35 rfl ?_
    refine gk_lcmp (pc := 36) d_Am_combinations_36 ?_
    refine gk_if_gt (pc := 37) 67 d_Am_combinations_37 rfl (fun _ => ?_) (fun _ => ?_)
    · refine gk_dload (pc := 67) 2 d_Am_combinations_67 rfl ?_
      refine gk_callS (pc := 69) (d := (d + 2)) (w' := gv_R) (as := [.double v4]) (n := 1) d_Am_combinations_69 rfl rfl (Nat.le_of_ble_eq_true rfl) tw_1004 tw_317 tw_97 cw_Va_ofNumber hy_Va_ofNumber (Nat.le_of_ble_eq_true rfl) (p_Va_ofNumber d v4 h) fun x1 h1 => ?_
      exact gk_aret (pc := 72) rfl d_Am_combinations_72 rfl (Or.inl ⟨_, rfl⟩)
    · refine gk_dload (pc := 40) 2 d_Am_combinations_40 rfl ?_
      refine gk_lload_n (pc := 42) 0 d_Am_combinations_42 rfl ?_
      refine gk_lload_n (pc := 43) 1 d_Am_combinations_43 rfl ?_
      refine gk_lsub (pc := 44) d_Am_combinations_44 ?_
      refine gk_iload (pc := 45) 3 d_Am_combinations_45 rfl ?_
      refine gk_i2l (pc := 47) d_Am_combinations_47 ?_
      refine gk_ladd (pc := 48) d_Am_combinations_48 ?_
      refine gk_l2d (pc := 49) d_Am_combinations_49 ?_
      refine gk_dmulN (pc := 50) d_Am_combinations_50 fun x2 => ?_
      refine gk_dstore (pc := 51) (L' := [(4, .double x2), (0, .long v0), (2, .long v2), (6, .int v6)]) d_Am_combinations_51 (Nat.le_of_ble_eq_true rfl) rfl ?_
      refine gk_dload (pc := 53) 0 d_Am_combinations_53 rfl ?_
      refine gk_iload (pc := 55) 3 d_Am_combinations_55 rfl ?_
      refine gk_i2d (pc := 57) d_Am_combinations_57 ?_
      refine gk_ddivN (pc := 58) d_Am_combinations_58 fun x3 => ?_
      refine gk_dstore (pc := 59) (L' := [(4, .double x3), (0, .long v0), (2, .long v2), (6, .int v6)]) d_Am_combinations_59 (Nat.le_of_ble_eq_true rfl) rfl ?_
      refine gk_iincN (pc := 61) 3 (1 : Int32) (L' := fun x4 => [(6, .int x4), (4, .double x3), (0, .long v0), (2, .long v2)]) d_Am_combinations_61 rfl rfl (Nat.le_of_ble_eq_true rfl) (fun _ => rfl) fun x4 => ?_
      refine gk_goto (pc := 64) 32 d_Am_combinations_64 rfl ?_
      refine gk_weak [2, 3, 1, 0] (L' := [(0, .long v0), (2, .long v2), (4, .double x3), (6, .int x4)]) rfl ?_
      exact q32 v0 v2 x3 x4 h
theorem w_Am_combinations (d : Nat) (a0 : Int64) (a1 : Int64) (h : gk_H) : gk_P gw_R (d + 3) y_Am_combinations b_Am_combinations 7 (some (.object "ValueAlgebra$Value")) [] (f_Am_combinations a0 a1 h) 0 [(0, .long a0), (2, .long a1)] [] h := by
  unfold f_Am_combinations
  refine gk_lload_n (pc := 0) 1 d_Am_combinations_0 rfl ?_
  refine gk_lconst (pc := 1) (0 : Int64) d_Am_combinations_1 rfl ?_
  refine gk_lcmp (pc := 2) d_Am_combinations_2 ?_
  refine gk_if_lt (pc := 3) 20 d_Am_combinations_3 rfl (fun _ => ?_) (fun _ => ?_)
  · refine gk_weak [] (L' := []) rfl ?_
    exact p_Am_combinations_b20 d h
  · refine gk_lload_n (pc := 6) 1 d_Am_combinations_6 rfl ?_
    refine gk_lload_n (pc := 7) 0 d_Am_combinations_7 rfl ?_
    refine gk_lcmp (pc := 8) d_Am_combinations_8 ?_
    refine gk_if_gt (pc := 9) 20 d_Am_combinations_9 rfl (fun _ => ?_) (fun _ => ?_)
    · refine gk_weak [] (L' := []) rfl ?_
      exact p_Am_combinations_b20 d h
    · refine gk_lload_n (pc := 12) 0 d_Am_combinations_12 rfl ?_
      refine gk_ldc2 (pc := 13) tw_1265 d_Am_combinations_13 ?_
      refine gk_lcmp (pc := 16) d_Am_combinations_16 ?_
      refine gk_if_le (pc := 17) 26 d_Am_combinations_17 rfl (fun _ => ?_) (fun _ => ?_)
      · refine gk_dconst1 (pc := 26) d_Am_combinations_26 ?_
        refine gk_dstore (pc := 27) (L' := [(4, .double (0x3ff0000000000000)), (0, .long a0), (2, .long a1)]) d_Am_combinations_27 (Nat.le_of_ble_eq_true rfl) rfl ?_
        refine gk_iconst (pc := 29) (1 : Int32) d_Am_combinations_29 rfl ?_
        refine gk_istore (pc := 30) (L' := [(6, .int (1 : Int32)), (4, .double (0x3ff0000000000000)), (0, .long a0), (2, .long a1)]) d_Am_combinations_30 (Nat.le_of_ble_eq_true rfl) rfl ?_
        refine gk_weak [2, 3, 1, 0] (L' := [(0, .long a0), (2, .long a1), (4, .double (0x3ff0000000000000)), (6, .int (1 : Int32))]) rfl ?_
        exact p_Am_combinations_b32 d gk_F a0 a1 (0x3ff0000000000000) (1 : Int32) h
      · refine gk_weak [] (L' := []) rfl ?_
        exact p_Am_combinations_b20 d h
theorem p_Am_combinations (d : Nat) (a0 : Int64) (a1 : Int64) (h : gk_H) : ∀ r h1, f_Am_combinations a0 a1 h = some (r, h1) → gk_M (d + 3) y_Am_combinations b_Am_combinations 7 (some (.object "ValueAlgebra$Value")) [.long a0, .long a1] h (.inl (gv_R r)) h1 :=
  fun r h1 e => gk_M_of2 (by decide +kernel) (by simp [lv_args, gk_cat_rf, gk_catI, gk_catJ, gk_catD, gv_V, gv_I, gv_J, gv_D, gv_R]) (by simp [lg_sl, gk_cat_rf, gk_catI, gk_catJ, gk_catD, gv_V, gv_I, gv_J, gv_D, gv_R]) (w_Am_combinations d a0 a1 h r h1 e)
theorem d_Am_factorial_0 : decode b_Am_factorial 0 = .ok (.lload_n 0, 1) := by decide +kernel
theorem d_Am_factorial_1 : decode b_Am_factorial 1 = .ok (.lconst 0, 1) := by decide +kernel
theorem d_Am_factorial_2 : decode b_Am_factorial 2 = .ok (.lcmp, 1) := by decide +kernel
theorem d_Am_factorial_3 : decode b_Am_factorial 3 = .ok (.ifCond .lt 11, 3) := by decide +kernel
theorem d_Am_factorial_6 : decode b_Am_factorial 6 = .ok (.lload_n 0, 1) := by decide +kernel
theorem d_Am_factorial_7 : decode b_Am_factorial 7 = .ok (.ldc2_w 122, 3) := by decide +kernel
theorem d_Am_factorial_10 : decode b_Am_factorial 10 = .ok (.lcmp, 1) := by decide +kernel
theorem d_Am_factorial_11 : decode b_Am_factorial 11 = .ok (.ifCond .le 9, 3) := by decide +kernel
theorem d_Am_factorial_14 : decode b_Am_factorial 14 = .ok (.bipush 6, 2) := by decide +kernel
theorem d_Am_factorial_16 : decode b_Am_factorial 16 = .ok (.invokestatic 80, 3) := by decide +kernel
theorem d_Am_factorial_19 : decode b_Am_factorial 19 = .ok (.areturn, 1) := by decide +kernel
theorem d_Am_factorial_20 : decode b_Am_factorial 20 = .ok (.dconst 1, 1) := by decide +kernel
theorem d_Am_factorial_21 : decode b_Am_factorial 21 = .ok (.dstore_n 2, 1) := by decide +kernel
theorem d_Am_factorial_22 : decode b_Am_factorial 22 = .ok (.iconst 2, 1) := by decide +kernel
theorem d_Am_factorial_23 : decode b_Am_factorial 23 = .ok (.istore 4, 2) := by decide +kernel
theorem d_Am_factorial_25 : decode b_Am_factorial 25 = .ok (.iload 4, 2) := by decide +kernel
theorem d_Am_factorial_27 : decode b_Am_factorial 27 = .ok (.i2l, 1) := by decide +kernel
theorem d_Am_factorial_28 : decode b_Am_factorial 28 = .ok (.lload_n 0, 1) := by decide +kernel
theorem d_Am_factorial_29 : decode b_Am_factorial 29 = .ok (.lcmp, 1) := by decide +kernel
theorem d_Am_factorial_30 : decode b_Am_factorial 30 = .ok (.ifCond .gt 15, 3) := by decide +kernel
theorem d_Am_factorial_33 : decode b_Am_factorial 33 = .ok (.dload_n 2, 1) := by decide +kernel
theorem d_Am_factorial_34 : decode b_Am_factorial 34 = .ok (.iload 4, 2) := by decide +kernel
theorem d_Am_factorial_36 : decode b_Am_factorial 36 = .ok (.i2d, 1) := by decide +kernel
theorem d_Am_factorial_37 : decode b_Am_factorial 37 = .ok (.dmul, 1) := by decide +kernel
theorem d_Am_factorial_38 : decode b_Am_factorial 38 = .ok (.dstore_n 2, 1) := by decide +kernel
theorem d_Am_factorial_39 : decode b_Am_factorial 39 = .ok (.iinc 4 1, 3) := by decide +kernel
theorem d_Am_factorial_42 : decode b_Am_factorial 42 = .ok (.goto (-17), 3) := by decide +kernel
theorem d_Am_factorial_45 : decode b_Am_factorial 45 = .ok (.dload_n 2, 1) := by decide +kernel
theorem d_Am_factorial_46 : decode b_Am_factorial 46 = .ok (.invokestatic 19, 3) := by decide +kernel
theorem d_Am_factorial_49 : decode b_Am_factorial 49 = .ok (.areturn, 1) := by decide +kernel
theorem p_Am_factorial_b14 (d : Nat)   (h : gk_H) : gk_P gw_R (d + 3) y_Am_factorial b_Am_factorial 5 (some (.object "ValueAlgebra$Value")) [] (f_Am_factorial_b14   h) 14 [] [] h := by
  unfold f_Am_factorial_b14
  refine gk_bipush (pc := 14) (6 : Int32) d_Am_factorial_14 rfl ?_
  refine gk_callS (pc := 16) (d := (d + 2)) (w' := gv_R) (as := [.int (6 : Int32)]) (n := 1) d_Am_factorial_16 rfl rfl (Nat.le_of_ble_eq_true rfl) tw_996 tw_236 tw_97 cw_Va_ofError hy_Va_ofError (Nat.le_of_ble_eq_true rfl) (p_Va_ofError d (6 : Int32) h) fun x1 h1 => ?_
  exact gk_aret (pc := 19) rfl d_Am_factorial_19 rfl (Or.inl ⟨_, rfl⟩)
theorem p_Am_factorial_b25 (d : Nat)  : ∀ (fu : Nat) (v0 : Int64) (v2 : UInt64) (v4 : Int32) (h : gk_H), gk_P gw_R (d + 3) y_Am_factorial b_Am_factorial 5 (some (.object "ValueAlgebra$Value")) [] (f_Am_factorial_b25  fu v0 v2 v4 h) 25 [(0, .long v0), (2, .double v2), (4, .int v4)] [] h := by
  intro fu
  induction fu with
  | zero => intros; exact gk_none
  | succ fu q25 =>
    intro v0 v2 v4 h
    rw [f_Am_factorial_b25]
    refine gk_iload (pc := 25) 2 d_Am_factorial_25 rfl ?_
    refine gk_i2l (pc := 27) d_Am_factorial_27 ?_
    refine gk_lload_n (pc := 28) 0 d_Am_factorial_28 rfl ?_
    refine gk_lcmp (pc := 29) d_Am_factorial_29 ?_
    refine gk_if_gt (pc := 30) 45 d_Am_factorial_30 rfl (fun _ => ?_) (fun _ => ?_)
    · refine gk_dload_n (pc := 45) 1 d_Am_factorial_45 rfl ?_
      refine gk_callS (pc := 46) (d := (d + 2)) (w' := gv_R) (as := [.double v2]) (n := 1) d_Am_factorial_46 rfl rfl (Nat.le_of_ble_eq_true rfl) tw_1004 tw_317 tw_97 cw_Va_ofNumber hy_Va_ofNumber (Nat.le_of_ble_eq_true rfl) (p_Va_ofNumber d v2 h) fun x1 h1 => ?_
      exact gk_aret (pc := 49) rfl d_Am_factorial_49 rfl (Or.inl ⟨_, rfl⟩)
    · refine gk_dload_n (pc := 33) 1 d_Am_factorial_33 rfl ?_
      refine gk_iload (pc := 34) 2 d_Am_factorial_34 rfl ?_
      refine gk_i2d (pc := 36) d_Am_factorial_36 ?_
      refine gk_dmulN (pc := 37) d_Am_factorial_37 fun x2 => ?_
      refine gk_dstore_n (pc := 38) (L' := [(2, .double x2), (0, .long v0), (4, .int v4)]) d_Am_factorial_38 (Nat.le_of_ble_eq_true rfl) rfl ?_
      refine gk_iincN (pc := 39) 2 (1 : Int32) (L' := fun x3 => [(4, .int x3), (2, .double x2), (0, .long v0)]) d_Am_factorial_39 rfl rfl (Nat.le_of_ble_eq_true rfl) (fun _ => rfl) fun x3 => ?_
      refine gk_goto (pc := 42) 25 d_Am_factorial_42 rfl ?_
      refine gk_weak [2, 1, 0] (L' := [(0, .long v0), (2, .double x2), (4, .int x3)]) rfl ?_
      exact q25 v0 x2 x3 h
theorem w_Am_factorial (d : Nat) (a0 : Int64) (h : gk_H) : gk_P gw_R (d + 3) y_Am_factorial b_Am_factorial 5 (some (.object "ValueAlgebra$Value")) [] (f_Am_factorial a0 h) 0 [(0, .long a0)] [] h := by
  unfold f_Am_factorial
  refine gk_lload_n (pc := 0) 0 d_Am_factorial_0 rfl ?_
  refine gk_lconst (pc := 1) (0 : Int64) d_Am_factorial_1 rfl ?_
  refine gk_lcmp (pc := 2) d_Am_factorial_2 ?_
  refine gk_if_lt (pc := 3) 14 d_Am_factorial_3 rfl (fun _ => ?_) (fun _ => ?_)
  · refine gk_weak [] (L' := []) rfl ?_
    exact p_Am_factorial_b14 d h
  · refine gk_lload_n (pc := 6) 0 d_Am_factorial_6 rfl ?_
    refine gk_ldc2 (pc := 7) tw_1261 d_Am_factorial_7 ?_
    refine gk_lcmp (pc := 10) d_Am_factorial_10 ?_
    refine gk_if_le (pc := 11) 20 d_Am_factorial_11 rfl (fun _ => ?_) (fun _ => ?_)
    · refine gk_dconst1 (pc := 20) d_Am_factorial_20 ?_
      refine gk_dstore_n (pc := 21) (L' := [(2, .double (0x3ff0000000000000)), (0, .long a0)]) d_Am_factorial_21 (Nat.le_of_ble_eq_true rfl) rfl ?_
      refine gk_iconst (pc := 22) (2 : Int32) d_Am_factorial_22 rfl ?_
      refine gk_istore (pc := 23) (L' := [(4, .int (2 : Int32)), (2, .double (0x3ff0000000000000)), (0, .long a0)]) d_Am_factorial_23 (Nat.le_of_ble_eq_true rfl) rfl ?_
      refine gk_weak [2, 1, 0] (L' := [(0, .long a0), (2, .double (0x3ff0000000000000)), (4, .int (2 : Int32))]) rfl ?_
      exact p_Am_factorial_b25 d gk_F a0 (0x3ff0000000000000) (2 : Int32) h
    · refine gk_weak [] (L' := []) rfl ?_
      exact p_Am_factorial_b14 d h
theorem p_Am_factorial (d : Nat) (a0 : Int64) (h : gk_H) : ∀ r h1, f_Am_factorial a0 h = some (r, h1) → gk_M (d + 3) y_Am_factorial b_Am_factorial 5 (some (.object "ValueAlgebra$Value")) [.long a0] h (.inl (gv_R r)) h1 :=
  fun r h1 e => gk_M_of2 (by decide +kernel) (by simp [lv_args, gk_cat_rf, gk_catI, gk_catJ, gk_catD, gv_V, gv_I, gv_J, gv_D, gv_R]) (by simp [lg_sl, gk_cat_rf, gk_catI, gk_catJ, gk_catD, gv_V, gv_I, gv_J, gv_D, gv_R]) (w_Am_factorial d a0 h r h1 e)
theorem d_Am_commonDivisor_0 : decode b_Am_commonDivisor 0 = .ok (.lload_n 0, 1) := by decide +kernel
theorem d_Am_commonDivisor_1 : decode b_Am_commonDivisor 1 = .ok (.lstore 4, 2) := by decide +kernel
theorem d_Am_commonDivisor_3 : decode b_Am_commonDivisor 3 = .ok (.lload_n 2, 1) := by decide +kernel
theorem d_Am_commonDivisor_4 : decode b_Am_commonDivisor 4 = .ok (.lstore 6, 2) := by decide +kernel
theorem d_Am_commonDivisor_6 : decode b_Am_commonDivisor 6 = .ok (.iconst 0, 1) := by decide +kernel
theorem d_Am_commonDivisor_7 : decode b_Am_commonDivisor 7 = .ok (.istore 8, 2) := by decide +kernel
theorem d_Am_commonDivisor_9 : decode b_Am_commonDivisor 9 = .ok (.iload 8, 2) := by decide +kernel
theorem d_Am_commonDivisor_11 : decode b_Am_commonDivisor 11 = .ok (.sipush 200, 3) := by decide +kernel
theorem d_Am_commonDivisor_14 : decode b_Am_commonDivisor 14 = .ok (.if_icmp .ge 31, 3) := by decide +kernel
theorem d_Am_commonDivisor_17 : decode b_Am_commonDivisor 17 = .ok (.lload 6, 2) := by decide +kernel
theorem d_Am_commonDivisor_19 : decode b_Am_commonDivisor 19 = .ok (.lconst 0, 1) := by decide +kernel
theorem d_Am_commonDivisor_20 : decode b_Am_commonDivisor 20 = .ok (.lcmp, 1) := by decide +kernel
theorem d_Am_commonDivisor_21 : decode b_Am_commonDivisor 21 = .ok (.ifCond .eq 24, 3) := by decide +kernel
theorem d_Am_commonDivisor_24 : decode b_Am_commonDivisor 24 = .ok (.lload 4, 2) := by decide +kernel
theorem d_Am_commonDivisor_26 : decode b_Am_commonDivisor 26 = .ok (.lload 6, 2) := by decide +kernel
theorem d_Am_commonDivisor_28 : decode b_Am_commonDivisor 28 = .ok (.lrem, 1) := by decide +kernel
theorem d_Am_commonDivisor_29 : decode b_Am_commonDivisor 29 = .ok (.lstore 9, 2) := by decide +kernel
theorem d_Am_commonDivisor_31 : decode b_Am_commonDivisor 31 = .ok (.lload 6, 2) := by decide +kernel
theorem d_Am_commonDivisor_33 : decode b_Am_commonDivisor 33 = .ok (.lstore 4, 2) := by decide +kernel
theorem d_Am_commonDivisor_35 : decode b_Am_commonDivisor 35 = .ok (.lload 9, 2) := by decide +kernel
theorem d_Am_commonDivisor_37 : decode b_Am_commonDivisor 37 = .ok (.lstore 6, 2) := by decide +kernel
theorem d_Am_commonDivisor_39 : decode b_Am_commonDivisor 39 = .ok (.iinc 8 1, 3) := by decide +kernel
theorem d_Am_commonDivisor_42 : decode b_Am_commonDivisor 42 = .ok (.goto (-33), 3) := by decide +kernel
theorem d_Am_commonDivisor_45 : decode b_Am_commonDivisor 45 = .ok (.lload 4, 2) := by decide +kernel
theorem d_Am_commonDivisor_47 : decode b_Am_commonDivisor 47 = .ok (.lreturn, 1) := by decide +kernel
theorem p_Am_commonDivisor_b45 (d : Nat)  (v4 : Int64) (h : gk_H) : gk_P gw_J d y_Am_commonDivisor b_Am_commonDivisor 11 (some .long) [] (f_Am_commonDivisor_b45  v4 h) 45 [(4, .long v4)] [] h := by
  unfold f_Am_commonDivisor_b45
  refine gk_lload (pc := 45) 0 d_Am_commonDivisor_45 rfl ?_
  exact gk_lret (pc := 47) rfl d_Am_commonDivisor_47 rfl
theorem p_Am_commonDivisor_b9 (d : Nat)  : ∀ (fu : Nat) (v4 : Int64) (v6 : Int64) (v8 : Int32) (h : gk_H), gk_P gw_J d y_Am_commonDivisor b_Am_commonDivisor 11 (some .long) [] (f_Am_commonDivisor_b9  fu v4 v6 v8 h) 9 [(4, .long v4), (6, .long v6), (8, .int v8)] [] h := by
  intro fu
  induction fu with
  | zero => intros; exact gk_none
  | succ fu q9 =>
    intro v4 v6 v8 h
    rw [f_Am_commonDivisor_b9]
    refine gk_iload (pc := 9) 2 d_Am_commonDivisor_9 rfl ?_
    refine gk_sipush (pc := 11) (200 : Int32) d_Am_commonDivisor_11 rfl ?_
    refine gk_icmp_ge (pc := 14) 45 d_Am_commonDivisor_14 rfl (fun _ => ?_) (fun _ => ?_)
    · refine gk_weak [0] (L' := [(4, .long v4)]) rfl ?_
      exact p_Am_commonDivisor_b45 d v4 h
    · refine gk_lload (pc := 17) 1 d_Am_commonDivisor_17 rfl ?_
      refine gk_lconst (pc := 19) (0 : Int64) d_Am_commonDivisor_19 rfl ?_
      refine gk_lcmp (pc := 20) d_Am_commonDivisor_20 ?_
      refine gk_if_eq (pc := 21) 45 d_Am_commonDivisor_21 rfl (fun _ => ?_) (fun _ => ?_)
      · refine gk_weak [0] (L' := [(4, .long v4)]) rfl ?_
        exact p_Am_commonDivisor_b45 d v4 h
      · refine gk_lload (pc := 24) 0 d_Am_commonDivisor_24 rfl ?_
        refine gk_lload (pc := 26) 1 d_Am_commonDivisor_26 rfl ?_
        refine gk_ite (fun _ => gk_none) fun hz28 => ?_
        refine gk_lrem (pc := 28) hz28 d_Am_commonDivisor_28 ?_
        refine gk_topJ (pc := 29) fun x1 => ?_
        refine gk_lstore (pc := 29) (L' := [(9, .long x1), (4, .long v4), (6, .long v6), (8, .int v8)]) d_Am_commonDivisor_29 (Nat.le_of_ble_eq_true rfl) rfl ?_
        refine gk_lload (pc := 31) 2 d_Am_commonDivisor_31 rfl ?_
        refine gk_lstore (pc := 33) (L' := [(4, .long v6), (9, .long x1), (6, .long v6), (8, .int v8)]) d_Am_commonDivisor_33 (Nat.le_of_ble_eq_true rfl) rfl ?_
        refine gk_lload (pc := 35) 1 d_Am_commonDivisor_35 rfl ?_
        refine gk_lstore (pc := 37) (L' := [(6, .long x1), (4, .long v6), (9, .long x1), (8, .int v8)]) d_Am_commonDivisor_37 (Nat.le_of_ble_eq_true rfl) rfl ?_
        refine gk_iincN (pc := 39) 3 (1 : Int32) (L' := fun x2 => [(8, .int x2), (6, .long x1), (4, .long v6), (9, .long x1)]) d_Am_commonDivisor_39 rfl rfl (Nat.le_of_ble_eq_true rfl) (fun _ => rfl) fun x2 => ?_
        refine gk_goto (pc := 42) 9 d_Am_commonDivisor_42 rfl ?_
        refine gk_weak [2, 1, 0] (L' := [(4, .long v6), (6, .long x1), (8, .int x2)]) rfl ?_
        exact q9 v6 x1 x2 h
theorem w_Am_commonDivisor (d : Nat) (a0 : Int64) (a1 : Int64) (h : gk_H) : gk_P gw_J d y_Am_commonDivisor b_Am_commonDivisor 11 (some .long) [] (f_Am_commonDivisor a0 a1 h) 0 [(0, .long a0), (2, .long a1)] [] h := by
  unfold f_Am_commonDivisor
  refine gk_lload_n (pc := 0) 0 d_Am_commonDivisor_0 rfl ?_
  refine gk_lstore (pc := 1) (L' := [(4, .long a0), (0, .long a0), (2, .long a1)]) d_Am_commonDivisor_1 (Nat.le_of_ble_eq_true rfl) rfl ?_
  refine gk_lload_n (pc := 3) 2 d_Am_commonDivisor_3 rfl ?_
  refine gk_lstore (pc := 4) (L' := [(6, .long a1), (4, .long a0), (0, .long a0), (2, .long a1)]) d_Am_commonDivisor_4 (Nat.le_of_ble_eq_true rfl) rfl ?_
  refine gk_iconst (pc := 6) (0 : Int32) d_Am_commonDivisor_6 rfl ?_
  refine gk_istore (pc := 7) (L' := [(8, .int (0 : Int32)), (6, .long a1), (4, .long a0), (0, .long a0), (2, .long a1)]) d_Am_commonDivisor_7 (Nat.le_of_ble_eq_true rfl) rfl ?_
  refine gk_weak [2, 1, 0] (L' := [(4, .long a0), (6, .long a1), (8, .int (0 : Int32))]) rfl ?_
  exact p_Am_commonDivisor_b9 d gk_F a0 a1 (0 : Int32) h
theorem p_Am_commonDivisor (d : Nat) (a0 : Int64) (a1 : Int64) (h : gk_H) : ∀ r h1, f_Am_commonDivisor a0 a1 h = some (r, h1) → gk_M d y_Am_commonDivisor b_Am_commonDivisor 11 (some .long) [.long a0, .long a1] h (.inl (gv_J r)) h1 :=
  fun r h1 e => gk_M_of2 (by decide +kernel) (by simp [lv_args, gk_cat_rf, gk_catI, gk_catJ, gk_catD, gv_V, gv_I, gv_J, gv_D, gv_R]) (by simp [lg_sl, gk_cat_rf, gk_catI, gk_catJ, gk_catD, gv_V, gv_I, gv_J, gv_D, gv_R]) (w_Am_commonDivisor d a0 a1 h r h1 e)
theorem d_Am_commonMultiple_0 : decode b_Am_commonMultiple 0 = .ok (.lconst 1, 1) := by decide +kernel
theorem d_Am_commonMultiple_1 : decode b_Am_commonMultiple 1 = .ok (.lstore_n 1, 1) := by decide +kernel
theorem d_Am_commonMultiple_2 : decode b_Am_commonMultiple 2 = .ok (.iconst 0, 1) := by decide +kernel
theorem d_Am_commonMultiple_3 : decode b_Am_commonMultiple 3 = .ok (.istore_n 3, 1) := by decide +kernel
theorem d_Am_commonMultiple_4 : decode b_Am_commonMultiple 4 = .ok (.iload_n 3, 1) := by decide +kernel
theorem d_Am_commonMultiple_5 : decode b_Am_commonMultiple 5 = .ok (.aload_n 0, 1) := by decide +kernel
theorem d_Am_commonMultiple_6 : decode b_Am_commonMultiple 6 = .ok (.invokevirtual 108, 3) := by decide +kernel
theorem d_Am_commonMultiple_9 : decode b_Am_commonMultiple 9 = .ok (.if_icmp .ge 71, 3) := by decide +kernel
theorem d_Am_commonMultiple_12 : decode b_Am_commonMultiple 12 = .ok (.aload_n 0, 1) := by decide +kernel
theorem d_Am_commonMultiple_13 : decode b_Am_commonMultiple 13 = .ok (.iload_n 3, 1) := by decide +kernel
theorem d_Am_commonMultiple_14 : decode b_Am_commonMultiple 14 = .ok (.invokevirtual 46, 3) := by decide +kernel
theorem d_Am_commonMultiple_17 : decode b_Am_commonMultiple 17 = .ok (.lstore 4, 2) := by decide +kernel
theorem d_Am_commonMultiple_19 : decode b_Am_commonMultiple 19 = .ok (.lload_n 1, 1) := by decide +kernel
theorem d_Am_commonMultiple_20 : decode b_Am_commonMultiple 20 = .ok (.lload 4, 2) := by decide +kernel
theorem d_Am_commonMultiple_22 : decode b_Am_commonMultiple 22 = .ok (.invokestatic 112, 3) := by decide +kernel
theorem d_Am_commonMultiple_25 : decode b_Am_commonMultiple 25 = .ok (.lstore 6, 2) := by decide +kernel
theorem d_Am_commonMultiple_27 : decode b_Am_commonMultiple 27 = .ok (.lload 6, 2) := by decide +kernel
theorem d_Am_commonMultiple_29 : decode b_Am_commonMultiple 29 = .ok (.lconst 0, 1) := by decide +kernel
theorem d_Am_commonMultiple_30 : decode b_Am_commonMultiple 30 = .ok (.lcmp, 1) := by decide +kernel
theorem d_Am_commonMultiple_31 : decode b_Am_commonMultiple 31 = .ok (.ifCond .ne 7, 3) := by decide +kernel
theorem d_Am_commonMultiple_34 : decode b_Am_commonMultiple 34 = .ok (.lconst 0, 1) := by decide +kernel
theorem d_Am_commonMultiple_35 : decode b_Am_commonMultiple 35 = .ok (.goto 8, 3) := by decide +kernel
theorem d_Am_commonMultiple_38 : decode b_Am_commonMultiple 38 = .ok (.lload 4, 2) := by decide +kernel
theorem d_Am_commonMultiple_40 : decode b_Am_commonMultiple 40 = .ok (.lload 6, 2) := by decide +kernel
theorem d_Am_commonMultiple_42 : decode b_Am_commonMultiple 42 = .ok (.ldiv, 1) := by decide +kernel
theorem d_Am_commonMultiple_43 : decode b_Am_commonMultiple 43 = .ok (.lstore 8, 2) := by decide +kernel
theorem d_Am_commonMultiple_45 : decode b_Am_commonMultiple 45 = .ok (.lload 8, 2) := by decide +kernel
theorem d_Am_commonMultiple_47 : decode b_Am_commonMultiple 47 = .ok (.lconst 1, 1) := by decide +kernel
theorem d_Am_commonMultiple_48 : decode b_Am_commonMultiple 48 = .ok (.lcmp, 1) := by decide +kernel
theorem d_Am_commonMultiple_49 : decode b_Am_commonMultiple 49 = .ok (.ifCond .lt 14, 3) := by decide +kernel
theorem d_Am_commonMultiple_52 : decode b_Am_commonMultiple 52 = .ok (.lload_n 1, 1) := by decide +kernel
theorem d_Am_commonMultiple_53 : decode b_Am_commonMultiple 53 = .ok (.ldc2_w 120, 3) := by decide +kernel
theorem d_Am_commonMultiple_56 : decode b_Am_commonMultiple 56 = .ok (.lload 8, 2) := by decide +kernel
theorem d_Am_commonMultiple_58 : decode b_Am_commonMultiple 58 = .ok (.ldiv, 1) := by decide +kernel
theorem d_Am_commonMultiple_59 : decode b_Am_commonMultiple 59 = .ok (.lcmp, 1) := by decide +kernel
theorem d_Am_commonMultiple_60 : decode b_Am_commonMultiple 60 = .ok (.ifCond .le 9, 3) := by decide +kernel
theorem d_Am_commonMultiple_63 : decode b_Am_commonMultiple 63 = .ok (.bipush 6, 2) := by decide +kernel
theorem d_Am_commonMultiple_65 : decode b_Am_commonMultiple 65 = .ok (.invokestatic 80, 3) := by decide +kernel
theorem d_Am_commonMultiple_68 : decode b_Am_commonMultiple 68 = .ok (.areturn, 1) := by decide +kernel
theorem d_Am_commonMultiple_69 : decode b_Am_commonMultiple 69 = .ok (.lload_n 1, 1) := by decide +kernel
theorem d_Am_commonMultiple_70 : decode b_Am_commonMultiple 70 = .ok (.lload 8, 2) := by decide +kernel
theorem d_Am_commonMultiple_72 : decode b_Am_commonMultiple 72 = .ok (.lmul, 1) := by decide +kernel
theorem d_Am_commonMultiple_73 : decode b_Am_commonMultiple 73 = .ok (.lstore_n 1, 1) := by decide +kernel
theorem d_Am_commonMultiple_74 : decode b_Am_commonMultiple 74 = .ok (.iinc 3 1, 3) := by decide +kernel
theorem d_Am_commonMultiple_77 : decode b_Am_commonMultiple 77 = .ok (.goto (-73), 3) := by decide +kernel
theorem d_Am_commonMultiple_80 : decode b_Am_commonMultiple 80 = .ok (.lload_n 1, 1) := by decide +kernel
theorem d_Am_commonMultiple_81 : decode b_Am_commonMultiple 81 = .ok (.l2d, 1) := by decide +kernel
theorem d_Am_commonMultiple_82 : decode b_Am_commonMultiple 82 = .ok (.invokestatic 19, 3) := by decide +kernel
theorem d_Am_commonMultiple_85 : decode b_Am_commonMultiple 85 = .ok (.areturn, 1) := by decide +kernel
theorem p_Am_commonMultiple_b63 (d : Nat)   (h : gk_H) : gk_P gw_R (d + 8) y_Am_commonMultiple b_Am_commonMultiple 10 (some (.object "ValueAlgebra$Value")) [] (f_Am_commonMultiple_b63   h) 63 [] [] h := by
  unfold f_Am_commonMultiple_b63
  refine gk_bipush (pc := 63) (6 : Int32) d_Am_commonMultiple_63 rfl ?_
  refine gk_callS (pc := 65) (d := (d + 7)) (w' := gv_R) (as := [.int (6 : Int32)]) (n := 1) d_Am_commonMultiple_65 rfl rfl (Nat.le_of_ble_eq_true rfl) tw_996 tw_236 tw_97 cw_Va_ofError hy_Va_ofError (Nat.le_of_ble_eq_true rfl) (p_Va_ofError (d + 5) (6 : Int32) h) fun x1 h1 => ?_
  exact gk_aret (pc := 68) rfl d_Am_commonMultiple_68 rfl (Or.inl ⟨_, rfl⟩)
theorem p_Am_commonMultiple_b43 (d : Nat) (b4 : Option Nat → Int64 → Int32 → gk_H → Option ((Option Nat) × gk_H)) (q4 : ∀ (v0 : Option Nat) (v1 : Int64) (v3 : Int32) (h : gk_H), gk_P gw_R (d + 8) y_Am_commonMultiple b_Am_commonMultiple 10 (some (.object "ValueAlgebra$Value")) [] (b4 v0 v1 v3 h) 4 [(0, va_rf v0), (1, .long v1), (3, .int v3)] [] h) (v0 : Option Nat) (v1 : Int64) (v3 : Int32) (s0 : Int64) (h : gk_H) : gk_P gw_R (d + 8) y_Am_commonMultiple b_Am_commonMultiple 10 (some (.object "ValueAlgebra$Value")) [] (f_Am_commonMultiple_b43 b4 v0 v1 v3 s0 h) 43 [(0, va_rf v0), (1, .long v1), (3, .int v3)] [.long s0] h := by
  unfold f_Am_commonMultiple_b43
  refine gk_lstore (pc := 43) (L' := [(8, .long s0), (0, va_rf v0), (1, .long v1), (3, .int v3)]) d_Am_commonMultiple_43 (Nat.le_of_ble_eq_true rfl) rfl ?_
  refine gk_lload (pc := 45) 0 d_Am_commonMultiple_45 rfl ?_
  refine gk_lconst (pc := 47) (1 : Int64) d_Am_commonMultiple_47 rfl ?_
  refine gk_lcmp (pc := 48) d_Am_commonMultiple_48 ?_
  refine gk_if_lt (pc := 49) 63 d_Am_commonMultiple_49 rfl (fun _ => ?_) (fun _ => ?_)
  · refine gk_weak [] (L' := []) rfl ?_
    exact p_Am_commonMultiple_b63 d h
  · refine gk_lload_n (pc := 52) 2 d_Am_commonMultiple_52 rfl ?_
    refine gk_ldc2 (pc := 53) tw_1257 d_Am_commonMultiple_53 ?_
    refine gk_lload (pc := 56) 0 d_Am_commonMultiple_56 rfl ?_
    refine gk_ite (fun _ => gk_none) fun hz58 => ?_
    refine gk_ldiv (pc := 58) hz58 d_Am_commonMultiple_58 ?_
    refine gk_lcmp (pc := 59) d_Am_commonMultiple_59 ?_
    refine gk_if_le (pc := 60) 69 d_Am_commonMultiple_60 rfl (fun _ => ?_) (fun _ => ?_)
    · refine gk_lload_n (pc := 69) 2 d_Am_commonMultiple_69 rfl ?_
      refine gk_lload (pc := 70) 0 d_Am_commonMultiple_70 rfl ?_
      refine gk_lmul (pc := 72) d_Am_commonMultiple_72 ?_
      refine gk_topJ (pc := 73) fun x1 => ?_
      refine gk_lstore_n (pc := 73) (L' := [(1, .long x1), (8, .long s0), (0, va_rf v0), (3, .int v3)]) d_Am_commonMultiple_73 (Nat.le_of_ble_eq_true rfl) (by simp [gk_s1, gk_s2, gk_cat_rf, gk_catI, gk_catJ, gk_catD] <;> decide) ?_
      refine gk_iincN (pc := 74) 3 (1 : Int32) (L' := fun x2 => [(3, .int x2), (1, .long x1), (8, .long s0), (0, va_rf v0)]) d_Am_commonMultiple_74 rfl rfl (Nat.le_of_ble_eq_true rfl) (fun _ => rfl) fun x2 => ?_
      refine gk_goto (pc := 77) 4 d_Am_commonMultiple_77 rfl ?_
      refine gk_weak [3, 1, 0] (L' := [(0, va_rf v0), (1, .long x1), (3, .int x2)]) rfl ?_
      exact q4 v0 x1 x2 h
    · refine gk_weak [] (L' := []) rfl ?_
      exact p_Am_commonMultiple_b63 d h
theorem p_Am_commonMultiple_b4 (d : Nat)  : ∀ (fu : Nat) (v0 : Option Nat) (v1 : Int64) (v3 : Int32) (h : gk_H), gk_P gw_R (d + 8) y_Am_commonMultiple b_Am_commonMultiple 10 (some (.object "ValueAlgebra$Value")) [] (f_Am_commonMultiple_b4  fu v0 v1 v3 h) 4 [(0, va_rf v0), (1, .long v1), (3, .int v3)] [] h := by
  intro fu
  induction fu with
  | zero => intros; exact gk_none
  | succ fu q4 =>
    intro v0 v1 v3 h
    rw [f_Am_commonMultiple_b4]
    refine gk_iload_n (pc := 4) 2 d_Am_commonMultiple_4 rfl ?_
    refine gk_aload_n (pc := 5) 0 d_Am_commonMultiple_5 rfl ?_
    refine gk_callV (pc := 6) (d := (d + 7)) (w' := gv_I) (as := []) (n := 0) 4 d_Am_commonMultiple_6 rfl rfl rfl rfl (Nat.le_of_ble_eq_true rfl) tw_1249 tw_1030 tw_1031 tw_96 cw_Ar_howMany hy_Ar_howMany (Nat.le_of_ble_eq_true rfl) (p_Ar_howMany (d + 7) v0 h) fun x1 h1 => ?_
    refine gk_icmp_ge (pc := 9) 80 d_Am_commonMultiple_9 rfl (fun _ => ?_) (fun _ => ?_)
    · refine gk_lload_n (pc := 80) 1 d_Am_commonMultiple_80 rfl ?_
      refine gk_l2d (pc := 81) d_Am_commonMultiple_81 ?_
      refine gk_callS (pc := 82) (d := (d + 7)) (w' := gv_R) (as := [.double (FP.l2d v1)]) (n := 1) d_Am_commonMultiple_82 rfl rfl (Nat.le_of_ble_eq_true rfl) tw_1004 tw_317 tw_97 cw_Va_ofNumber hy_Va_ofNumber (Nat.le_of_ble_eq_true rfl) (p_Va_ofNumber (d + 5) (FP.l2d v1) h1) fun x2 h2 => ?_
      exact gk_aret (pc := 85) rfl d_Am_commonMultiple_85 rfl (Or.inl ⟨_, rfl⟩)
    · refine gk_aload_n (pc := 12) 0 d_Am_commonMultiple_12 rfl ?_
      refine gk_iload_n (pc := 13) 2 d_Am_commonMultiple_13 rfl ?_
      refine gk_callV (pc := 14) (d := (d + 7)) (w' := gv_J) (as := [.int v3]) (n := 1) 4 d_Am_commonMultiple_14 rfl rfl rfl rfl (Nat.le_of_ble_eq_true rfl) tw_1250 tw_1065 tw_1066 tw_96 cw_Ar_whole hy_Ar_whole (Nat.le_of_ble_eq_true rfl) (p_Ar_whole d v0 v3 h1) fun x3 h3 => ?_
      refine gk_lstore (pc := 17) (L' := [(4, .long x3), (0, va_rf v0), (1, .long v1), (3, .int v3)]) d_Am_commonMultiple_17 (Nat.le_of_ble_eq_true rfl) rfl ?_
      refine gk_lload_n (pc := 19) 2 d_Am_commonMultiple_19 rfl ?_
      refine gk_lload (pc := 20) 0 d_Am_commonMultiple_20 rfl ?_
      refine gk_callS (pc := 22) (d := (d + 7)) (w' := gv_J) (as := [.long v1, .long x3]) (n := 2) d_Am_commonMultiple_22 rfl rfl (Nat.le_of_ble_eq_true rfl) tw_1251 tw_1252 tw_117 cw_Am_commonDivisor hy_Am_commonDivisor (Nat.le_of_ble_eq_true rfl) (p_Am_commonDivisor (d + 7) v1 x3 h3) fun x4 h4 => ?_
      refine gk_lstore (pc := 25) (L' := [(6, .long x4), (4, .long x3), (0, va_rf v0), (1, .long v1), (3, .int v3)]) d_Am_commonMultiple_25 (Nat.le_of_ble_eq_true rfl) rfl ?_
      refine gk_lload (pc := 27) 0 d_Am_commonMultiple_27 rfl ?_
      refine gk_lconst (pc := 29) (0 : Int64) d_Am_commonMultiple_29 rfl ?_
      refine gk_lcmp (pc := 30) d_Am_commonMultiple_30 ?_
      refine gk_if_ne (pc := 31) 38 d_Am_commonMultiple_31 rfl (fun _ => ?_) (fun _ => ?_)
      · refine gk_lconst (pc := 34) (0 : Int64) d_Am_commonMultiple_34 rfl ?_
        refine gk_goto (pc := 35) 43 d_Am_commonMultiple_35 rfl ?_
        refine gk_weak [2, 3, 4] (L' := [(0, va_rf v0), (1, .long v1), (3, .int v3)]) rfl ?_
        exact p_Am_commonMultiple_b43 d (f_Am_commonMultiple_b4 fu) q4 v0 v1 v3 (0 : Int64) h4
      · refine gk_lload (pc := 38) 1 d_Am_commonMultiple_38 rfl ?_
        refine gk_lload (pc := 40) 0 d_Am_commonMultiple_40 rfl ?_
        refine gk_ite (fun _ => gk_none) fun hz42 => ?_
        refine gk_ldiv (pc := 42) hz42 d_Am_commonMultiple_42 ?_
        refine gk_weak [2, 3, 4] (L' := [(0, va_rf v0), (1, .long v1), (3, .int v3)]) rfl ?_
        exact p_Am_commonMultiple_b43 d (f_Am_commonMultiple_b4 fu) q4 v0 v1 v3 (x3 / x4) h4
theorem w_Am_commonMultiple (d : Nat) (a0 : Option Nat) (h : gk_H) : gk_P gw_R (d + 8) y_Am_commonMultiple b_Am_commonMultiple 10 (some (.object "ValueAlgebra$Value")) [] (f_Am_commonMultiple a0 h) 0 [(0, va_rf a0)] [] h := by
  unfold f_Am_commonMultiple
  refine gk_lconst (pc := 0) (1 : Int64) d_Am_commonMultiple_0 rfl ?_
  refine gk_lstore_n (pc := 1) (L' := [(1, .long (1 : Int64)), (0, va_rf a0)]) d_Am_commonMultiple_1 (Nat.le_of_ble_eq_true rfl) (by simp [gk_s1, gk_s2, gk_cat_rf, gk_catI, gk_catJ, gk_catD] <;> decide) ?_
  refine gk_iconst (pc := 2) (0 : Int32) d_Am_commonMultiple_2 rfl ?_
  refine gk_istore_n (pc := 3) (L' := [(3, .int (0 : Int32)), (1, .long (1 : Int64)), (0, va_rf a0)]) d_Am_commonMultiple_3 (Nat.le_of_ble_eq_true rfl) rfl ?_
  refine gk_weak [2, 1, 0] (L' := [(0, va_rf a0), (1, .long (1 : Int64)), (3, .int (0 : Int32))]) rfl ?_
  exact p_Am_commonMultiple_b4 d gk_F a0 (1 : Int64) (0 : Int32) h
theorem p_Am_commonMultiple (d : Nat) (a0 : Option Nat) (h : gk_H) : ∀ r h1, f_Am_commonMultiple a0 h = some (r, h1) → gk_M (d + 8) y_Am_commonMultiple b_Am_commonMultiple 10 (some (.object "ValueAlgebra$Value")) [va_rf a0] h (.inl (gv_R r)) h1 :=
  fun r h1 e => gk_M_of2 (by decide +kernel) (by simp [lv_args, gk_cat_rf, gk_catI, gk_catJ, gk_catD, gv_V, gv_I, gv_J, gv_D, gv_R]) (by simp [lg_sl, gk_cat_rf, gk_catI, gk_catJ, gk_catD, gv_V, gv_I, gv_J, gv_D, gv_R]) (w_Am_commonMultiple d a0 h r h1 e)
theorem d_Am_ofDivisors_0 : decode b_Am_ofDivisors 0 = .ok (.iconst 0, 1) := by decide +kernel
theorem d_Am_ofDivisors_1 : decode b_Am_ofDivisors 1 = .ok (.istore_n 2, 1) := by decide +kernel
theorem d_Am_ofDivisors_2 : decode b_Am_ofDivisors 2 = .ok (.iconst 0, 1) := by decide +kernel
theorem d_Am_ofDivisors_3 : decode b_Am_ofDivisors 3 = .ok (.istore_n 3, 1) := by decide +kernel
theorem d_Am_ofDivisors_4 : decode b_Am_ofDivisors 4 = .ok (.lconst 0, 1) := by decide +kernel
theorem d_Am_ofDivisors_5 : decode b_Am_ofDivisors 5 = .ok (.lstore 4, 2) := by decide +kernel
theorem d_Am_ofDivisors_7 : decode b_Am_ofDivisors 7 = .ok (.iconst 0, 1) := by decide +kernel
theorem d_Am_ofDivisors_8 : decode b_Am_ofDivisors 8 = .ok (.istore 6, 2) := by decide +kernel
theorem d_Am_ofDivisors_10 : decode b_Am_ofDivisors 10 = .ok (.iload 6, 2) := by decide +kernel
theorem d_Am_ofDivisors_12 : decode b_Am_ofDivisors 12 = .ok (.aload_n 1, 1) := by decide +kernel
theorem d_Am_ofDivisors_13 : decode b_Am_ofDivisors 13 = .ok (.invokevirtual 108, 3) := by decide +kernel
theorem d_Am_ofDivisors_16 : decode b_Am_ofDivisors 16 = .ok (.if_icmp .ge 60, 3) := by decide +kernel
theorem d_Am_ofDivisors_19 : decode b_Am_ofDivisors 19 = .ok (.aload_n 1, 1) := by decide +kernel
theorem d_Am_ofDivisors_20 : decode b_Am_ofDivisors 20 = .ok (.iload 6, 2) := by decide +kernel
theorem d_Am_ofDivisors_22 : decode b_Am_ofDivisors 22 = .ok (.invokevirtual 46, 3) := by decide +kernel
theorem d_Am_ofDivisors_25 : decode b_Am_ofDivisors 25 = .ok (.lstore 7, 2) := by decide +kernel
theorem d_Am_ofDivisors_27 : decode b_Am_ofDivisors 27 = .ok (.iload_n 2, 1) := by decide +kernel
theorem d_Am_ofDivisors_28 : decode b_Am_ofDivisors 28 = .ok (.ifCond .ne 10, 3) := by decide +kernel
theorem d_Am_ofDivisors_31 : decode b_Am_ofDivisors 31 = .ok (.lload 7, 2) := by decide +kernel
theorem d_Am_ofDivisors_33 : decode b_Am_ofDivisors 33 = .ok (.lconst 0, 1) := by decide +kernel
theorem d_Am_ofDivisors_34 : decode b_Am_ofDivisors 34 = .ok (.lcmp, 1) := by decide +kernel
theorem d_Am_ofDivisors_35 : decode b_Am_ofDivisors 35 = .ok (.ifCond .ge 7, 3) := by decide +kernel
theorem d_Am_ofDivisors_38 : decode b_Am_ofDivisors 38 = .ok (.iconst 1, 1) := by decide +kernel
theorem d_Am_ofDivisors_39 : decode b_Am_ofDivisors 39 = .ok (.goto 4, 3) := by decide +kernel
theorem d_Am_ofDivisors_42 : decode b_Am_ofDivisors 42 = .ok (.iconst 0, 1) := by decide +kernel
theorem d_Am_ofDivisors_43 : decode b_Am_ofDivisors 43 = .ok (.istore_n 2, 1) := by decide +kernel
theorem d_Am_ofDivisors_44 : decode b_Am_ofDivisors 44 = .ok (.iload_n 3, 1) := by decide +kernel
theorem d_Am_ofDivisors_45 : decode b_Am_ofDivisors 45 = .ok (.ifCond .ne 10, 3) := by decide +kernel
theorem d_Am_ofDivisors_48 : decode b_Am_ofDivisors 48 = .ok (.lload 7, 2) := by decide +kernel
theorem d_Am_ofDivisors_50 : decode b_Am_ofDivisors 50 = .ok (.lconst 0, 1) := by decide +kernel
theorem d_Am_ofDivisors_51 : decode b_Am_ofDivisors 51 = .ok (.lcmp, 1) := by decide +kernel
theorem d_Am_ofDivisors_52 : decode b_Am_ofDivisors 52 = .ok (.ifCond .ne 7, 3) := by decide +kernel
theorem d_Am_ofDivisors_55 : decode b_Am_ofDivisors 55 = .ok (.iconst 1, 1) := by decide +kernel
theorem d_Am_ofDivisors_56 : decode b_Am_ofDivisors 56 = .ok (.goto 4, 3) := by decide +kernel
theorem d_Am_ofDivisors_59 : decode b_Am_ofDivisors 59 = .ok (.iconst 0, 1) := by decide +kernel
theorem d_Am_ofDivisors_60 : decode b_Am_ofDivisors 60 = .ok (.istore_n 3, 1) := by decide +kernel
theorem d_Am_ofDivisors_61 : decode b_Am_ofDivisors 61 = .ok (.lload 4, 2) := by decide +kernel
theorem d_Am_ofDivisors_63 : decode b_Am_ofDivisors 63 = .ok (.lload 7, 2) := by decide +kernel
theorem d_Am_ofDivisors_65 : decode b_Am_ofDivisors 65 = .ok (.invokestatic 112, 3) := by decide +kernel
theorem d_Am_ofDivisors_68 : decode b_Am_ofDivisors 68 = .ok (.lstore 4, 2) := by decide +kernel
theorem d_Am_ofDivisors_70 : decode b_Am_ofDivisors 70 = .ok (.iinc 6 1, 3) := by decide +kernel
theorem d_Am_ofDivisors_73 : decode b_Am_ofDivisors 73 = .ok (.goto (-63), 3) := by decide +kernel
theorem d_Am_ofDivisors_76 : decode b_Am_ofDivisors 76 = .ok (.iload_n 2, 1) := by decide +kernel
theorem d_Am_ofDivisors_77 : decode b_Am_ofDivisors 77 = .ok (.ifCond .eq 9, 3) := by decide +kernel
theorem d_Am_ofDivisors_80 : decode b_Am_ofDivisors 80 = .ok (.bipush 6, 2) := by decide +kernel
theorem d_Am_ofDivisors_82 : decode b_Am_ofDivisors 82 = .ok (.invokestatic 80, 3) := by decide +kernel
theorem d_Am_ofDivisors_85 : decode b_Am_ofDivisors 85 = .ok (.areturn, 1) := by decide +kernel
theorem d_Am_ofDivisors_86 : decode b_Am_ofDivisors 86 = .ok (.iload_n 0, 1) := by decide +kernel
theorem d_Am_ofDivisors_87 : decode b_Am_ofDivisors 87 = .ok (.bipush 25, 2) := by decide +kernel
theorem d_Am_ofDivisors_89 : decode b_Am_ofDivisors 89 = .ok (.if_icmp .ne 10, 3) := by decide +kernel
theorem d_Am_ofDivisors_92 : decode b_Am_ofDivisors 92 = .ok (.lload 4, 2) := by decide +kernel
theorem d_Am_ofDivisors_94 : decode b_Am_ofDivisors 94 = .ok (.l2d, 1) := by decide +kernel
theorem d_Am_ofDivisors_95 : decode b_Am_ofDivisors 95 = .ok (.invokestatic 19, 3) := by decide +kernel
theorem d_Am_ofDivisors_98 : decode b_Am_ofDivisors 98 = .ok (.areturn, 1) := by decide +kernel
theorem d_Am_ofDivisors_99 : decode b_Am_ofDivisors 99 = .ok (.iload_n 3, 1) := by decide +kernel
theorem d_Am_ofDivisors_100 : decode b_Am_ofDivisors 100 = .ok (.ifCond .eq 10, 3) := by decide +kernel
theorem d_Am_ofDivisors_103 : decode b_Am_ofDivisors 103 = .ok (.dconst 0, 1) := by decide +kernel
theorem d_Am_ofDivisors_104 : decode b_Am_ofDivisors 104 = .ok (.invokestatic 19, 3) := by decide +kernel
theorem d_Am_ofDivisors_107 : decode b_Am_ofDivisors 107 = .ok (.goto 7, 3) := by decide +kernel
theorem d_Am_ofDivisors_110 : decode b_Am_ofDivisors 110 = .ok (.aload_n 1, 1) := by decide +kernel
theorem d_Am_ofDivisors_111 : decode b_Am_ofDivisors 111 = .ok (.invokestatic 116, 3) := by decide +kernel
theorem d_Am_ofDivisors_114 : decode b_Am_ofDivisors 114 = .ok (.areturn, 1) := by decide +kernel
theorem p_Am_ofDivisors_b114 (d : Nat)  (s0 : Option Nat) (h : gk_H) : gk_P gw_R (d + 9) y_Am_ofDivisors b_Am_ofDivisors 9 (some (.object "ValueAlgebra$Value")) [] (f_Am_ofDivisors_b114  s0 h) 114 [] [va_rf s0] h := by
  unfold f_Am_ofDivisors_b114
  exact gk_aret (pc := 114) rfl d_Am_ofDivisors_114 rfl (Or.inl ⟨_, rfl⟩)
theorem p_Am_ofDivisors_b60 (d : Nat) (b10 : Int32 → Option Nat → Int32 → Int32 → Int64 → Int32 → gk_H → Option ((Option Nat) × gk_H)) (q10 : ∀ (v0 : Int32) (v1 : Option Nat) (v2 : Int32) (v3 : Int32) (v4 : Int64) (v6 : Int32) (h : gk_H), gk_P gw_R (d + 9) y_Am_ofDivisors b_Am_ofDivisors 9 (some (.object "ValueAlgebra$Value")) [] (b10 v0 v1 v2 v3 v4 v6 h) 10 [(0, .int v0), (1, va_rf v1), (2, .int v2), (3, .int v3), (4, .long v4), (6, .int v6)] [] h) (v0 : Int32) (v1 : Option Nat) (v2 : Int32) (v4 : Int64) (v6 : Int32) (v7 : Int64) (s0 : Int32) (h : gk_H) : gk_P gw_R (d + 9) y_Am_ofDivisors b_Am_ofDivisors 9 (some (.object "ValueAlgebra$Value")) [] (f_Am_ofDivisors_b60 b10 v0 v1 v2 v4 v6 v7 s0 h) 60 [(0, .int v0), (1, va_rf v1), (2, .int v2), (4, .long v4), (6, .int v6), (7, .long v7)] [.int s0] h := by
  unfold f_Am_ofDivisors_b60
  refine gk_istore_n (pc := 60) (L' := [(3, .int s0), (0, .int v0), (1, va_rf v1), (2, .int v2), (4, .long v4), (6, .int v6), (7, .long v7)]) d_Am_ofDivisors_60 (Nat.le_of_ble_eq_true rfl) rfl ?_
  refine gk_lload (pc := 61) 4 d_Am_ofDivisors_61 rfl ?_
  refine gk_lload (pc := 63) 6 d_Am_ofDivisors_63 rfl ?_
  refine gk_callS (pc := 65) (d := (d + 8)) (w' := gv_J) (as := [.long v4, .long v7]) (n := 2) d_Am_ofDivisors_65 rfl rfl (Nat.le_of_ble_eq_true rfl) tw_1251 tw_1252 tw_117 cw_Am_commonDivisor hy_Am_commonDivisor (Nat.le_of_ble_eq_true rfl) (p_Am_commonDivisor (d + 8) v4 v7 h) fun x1 h1 => ?_
  refine gk_lstore (pc := 68) (L' := [(4, .long x1), (3, .int s0), (0, .int v0), (1, va_rf v1), (2, .int v2), (6, .int v6), (7, .long v7)]) d_Am_ofDivisors_68 (Nat.le_of_ble_eq_true rfl) rfl ?_
  refine gk_iincN (pc := 70) 5 (1 : Int32) (L' := fun x2 => [(6, .int x2), (4, .long x1), (3, .int s0), (0, .int v0), (1, va_rf v1), (2, .int v2), (7, .long v7)]) d_Am_ofDivisors_70 rfl rfl (Nat.le_of_ble_eq_true rfl) (fun _ => rfl) fun x2 => ?_
  refine gk_goto (pc := 73) 10 d_Am_ofDivisors_73 rfl ?_
  refine gk_weak [3, 4, 5, 2, 1, 0] (L' := [(0, .int v0), (1, va_rf v1), (2, .int v2), (3, .int s0), (4, .long x1), (6, .int x2)]) rfl ?_
  exact q10 v0 v1 v2 s0 x1 x2 h1
theorem p_Am_ofDivisors_b55 (d : Nat) (b10 : Int32 → Option Nat → Int32 → Int32 → Int64 → Int32 → gk_H → Option ((Option Nat) × gk_H)) (q10 : ∀ (v0 : Int32) (v1 : Option Nat) (v2 : Int32) (v3 : Int32) (v4 : Int64) (v6 : Int32) (h : gk_H), gk_P gw_R (d + 9) y_Am_ofDivisors b_Am_ofDivisors 9 (some (.object "ValueAlgebra$Value")) [] (b10 v0 v1 v2 v3 v4 v6 h) 10 [(0, .int v0), (1, va_rf v1), (2, .int v2), (3, .int v3), (4, .long v4), (6, .int v6)] [] h) (v0 : Int32) (v1 : Option Nat) (v2 : Int32) (v4 : Int64) (v6 : Int32) (v7 : Int64) (h : gk_H) : gk_P gw_R (d + 9) y_Am_ofDivisors b_Am_ofDivisors 9 (some (.object "ValueAlgebra$Value")) [] (f_Am_ofDivisors_b55 b10 v0 v1 v2 v4 v6 v7 h) 55 [(0, .int v0), (1, va_rf v1), (2, .int v2), (4, .long v4), (6, .int v6), (7, .long v7)] [] h := by
  unfold f_Am_ofDivisors_b55
  refine gk_iconst (pc := 55) (1 : Int32) d_Am_ofDivisors_55 rfl ?_
  refine gk_goto (pc := 56) 60 d_Am_ofDivisors_56 rfl ?_
  exact p_Am_ofDivisors_b60 d b10 q10 v0 v1 v2 v4 v6 v7 (1 : Int32) h
theorem p_Am_ofDivisors_b43 (d : Nat) (b10 : Int32 → Option Nat → Int32 → Int32 → Int64 → Int32 → gk_H → Option ((Option Nat) × gk_H)) (q10 : ∀ (v0 : Int32) (v1 : Option Nat) (v2 : Int32) (v3 : Int32) (v4 : Int64) (v6 : Int32) (h : gk_H), gk_P gw_R (d + 9) y_Am_ofDivisors b_Am_ofDivisors 9 (some (.object "ValueAlgebra$Value")) [] (b10 v0 v1 v2 v3 v4 v6 h) 10 [(0, .int v0), (1, va_rf v1), (2, .int v2), (3, .int v3), (4, .long v4), (6, .int v6)] [] h) (v0 : Int32) (v1 : Option Nat) (v3 : Int32) (v4 : Int64) (v6 : Int32) (v7 : Int64) (s0 : Int32) (h : gk_H) : gk_P gw_R (d + 9) y_Am_ofDivisors b_Am_ofDivisors 9 (some (.object "ValueAlgebra$Value")) [] (f_Am_ofDivisors_b43 b10 v0 v1 v3 v4 v6 v7 s0 h) 43 [(0, .int v0), (1, va_rf v1), (3, .int v3), (4, .long v4), (6, .int v6), (7, .long v7)] [.int s0] h := by
  unfold f_Am_ofDivisors_b43
  refine gk_istore_n (pc := 43) (L' := [(2, .int s0), (0, .int v0), (1, va_rf v1), (3, .int v3), (4, .long v4), (6, .int v6), (7, .long v7)]) d_Am_ofDivisors_43 (Nat.le_of_ble_eq_true rfl) (by simp [gk_s1, gk_s2, gk_cat_rf, gk_catI, gk_catJ, gk_catD] <;> decide) ?_
  refine gk_iload_n (pc := 44) 3 d_Am_ofDivisors_44 rfl ?_
  refine gk_if_ne (pc := 45) 55 d_Am_ofDivisors_45 rfl (fun _ => ?_) (fun _ => ?_)
  · refine gk_lload (pc := 48) 6 d_Am_ofDivisors_48 rfl ?_
    refine gk_lconst (pc := 50) (0 : Int64) d_Am_ofDivisors_50 rfl ?_
    refine gk_lcmp (pc := 51) d_Am_ofDivisors_51 ?_
    refine gk_if_ne (pc := 52) 59 d_Am_ofDivisors_52 rfl (fun _ => ?_) (fun _ => ?_)
    · refine gk_weak [1, 2, 0, 4, 5, 6] (L' := [(0, .int v0), (1, va_rf v1), (2, .int s0), (4, .long v4), (6, .int v6), (7, .long v7)]) rfl ?_
      exact p_Am_ofDivisors_b55 d b10 q10 v0 v1 s0 v4 v6 v7 h
    · refine gk_iconst (pc := 59) (0 : Int32) d_Am_ofDivisors_59 rfl ?_
      refine gk_weak [1, 2, 0, 4, 5, 6] (L' := [(0, .int v0), (1, va_rf v1), (2, .int s0), (4, .long v4), (6, .int v6), (7, .long v7)]) rfl ?_
      exact p_Am_ofDivisors_b60 d b10 q10 v0 v1 s0 v4 v6 v7 (0 : Int32) h
  · refine gk_weak [1, 2, 0, 4, 5, 6] (L' := [(0, .int v0), (1, va_rf v1), (2, .int s0), (4, .long v4), (6, .int v6), (7, .long v7)]) rfl ?_
    exact p_Am_ofDivisors_b55 d b10 q10 v0 v1 s0 v4 v6 v7 h
theorem p_Am_ofDivisors_b38 (d : Nat) (b10 : Int32 → Option Nat → Int32 → Int32 → Int64 → Int32 → gk_H → Option ((Option Nat) × gk_H)) (q10 : ∀ (v0 : Int32) (v1 : Option Nat) (v2 : Int32) (v3 : Int32) (v4 : Int64) (v6 : Int32) (h : gk_H), gk_P gw_R (d + 9) y_Am_ofDivisors b_Am_ofDivisors 9 (some (.object "ValueAlgebra$Value")) [] (b10 v0 v1 v2 v3 v4 v6 h) 10 [(0, .int v0), (1, va_rf v1), (2, .int v2), (3, .int v3), (4, .long v4), (6, .int v6)] [] h) (v0 : Int32) (v1 : Option Nat) (v3 : Int32) (v4 : Int64) (v6 : Int32) (v7 : Int64) (h : gk_H) : gk_P gw_R (d + 9) y_Am_ofDivisors b_Am_ofDivisors 9 (some (.object "ValueAlgebra$Value")) [] (f_Am_ofDivisors_b38 b10 v0 v1 v3 v4 v6 v7 h) 38 [(0, .int v0), (1, va_rf v1), (3, .int v3), (4, .long v4), (6, .int v6), (7, .long v7)] [] h := by
  unfold f_Am_ofDivisors_b38
  refine gk_iconst (pc := 38) (1 : Int32) d_Am_ofDivisors_38 rfl ?_
  refine gk_goto (pc := 39) 43 d_Am_ofDivisors_39 rfl ?_
  exact p_Am_ofDivisors_b43 d b10 q10 v0 v1 v3 v4 v6 v7 (1 : Int32) h
theorem p_Am_ofDivisors_b10 (d : Nat)  : ∀ (fu : Nat) (v0 : Int32) (v1 : Option Nat) (v2 : Int32) (v3 : Int32) (v4 : Int64) (v6 : Int32) (h : gk_H), gk_P gw_R (d + 9) y_Am_ofDivisors b_Am_ofDivisors 9 (some (.object "ValueAlgebra$Value")) [] (f_Am_ofDivisors_b10  fu v0 v1 v2 v3 v4 v6 h) 10 [(0, .int v0), (1, va_rf v1), (2, .int v2), (3, .int v3), (4, .long v4), (6, .int v6)] [] h := by
  intro fu
  induction fu with
  | zero => intros; exact gk_none
  | succ fu q10 =>
    intro v0 v1 v2 v3 v4 v6 h
    rw [f_Am_ofDivisors_b10]
    refine gk_iload (pc := 10) 5 d_Am_ofDivisors_10 rfl ?_
    refine gk_aload_n (pc := 12) 1 d_Am_ofDivisors_12 rfl ?_
    refine gk_callV (pc := 13) (d := (d + 8)) (w' := gv_I) (as := []) (n := 0) 4 d_Am_ofDivisors_13 rfl rfl rfl rfl (Nat.le_of_ble_eq_true rfl) tw_1249 tw_1030 tw_1031 tw_96 cw_Ar_howMany hy_Ar_howMany (Nat.le_of_ble_eq_true rfl) (p_Ar_howMany (d + 8) v1 h) fun x1 h1 => ?_
    refine gk_icmp_ge (pc := 16) 76 d_Am_ofDivisors_16 rfl (fun _ => ?_) (fun _ => ?_)
    · refine gk_iload_n (pc := 76) 2 d_Am_ofDivisors_76 rfl ?_
      refine gk_if_eq (pc := 77) 86 d_Am_ofDivisors_77 rfl (fun _ => ?_) (fun _ => ?_)
      · refine gk_iload_n (pc := 86) 0 d_Am_ofDivisors_86 rfl ?_
        refine gk_bipush (pc := 87) (25 : Int32) d_Am_ofDivisors_87 rfl ?_
        refine gk_icmp_ne (pc := 89) 99 d_Am_ofDivisors_89 rfl (fun _ => ?_) (fun _ => ?_)
        · refine gk_lload (pc := 92) 4 d_Am_ofDivisors_92 rfl ?_
          refine gk_l2d (pc := 94) d_Am_ofDivisors_94 ?_
          refine gk_callS (pc := 95) (d := (d + 8)) (w' := gv_R) (as := [.double (FP.l2d v4)]) (n := 1) d_Am_ofDivisors_95 rfl rfl (Nat.le_of_ble_eq_true rfl) tw_1004 tw_317 tw_97 cw_Va_ofNumber hy_Va_ofNumber (Nat.le_of_ble_eq_true rfl) (p_Va_ofNumber (d + 6) (FP.l2d v4) h1) fun x2 h2 => ?_
          exact gk_aret (pc := 98) rfl d_Am_ofDivisors_98 rfl (Or.inl ⟨_, rfl⟩)
        · refine gk_iload_n (pc := 99) 3 d_Am_ofDivisors_99 rfl ?_
          refine gk_if_eq (pc := 100) 110 d_Am_ofDivisors_100 rfl (fun _ => ?_) (fun _ => ?_)
          · refine gk_aload_n (pc := 110) 1 d_Am_ofDivisors_110 rfl ?_
            refine gk_callS (pc := 111) (d := (d + 8)) (w' := gv_R) (as := [va_rf v1]) (n := 1) d_Am_ofDivisors_111 rfl rfl (Nat.le_of_ble_eq_true rfl) tw_1254 tw_1255 tw_117 cw_Am_commonMultiple hy_Am_commonMultiple (Nat.le_of_ble_eq_true rfl) (p_Am_commonMultiple d v1 h1) fun x3 h3 => ?_
            refine gk_weak [] (L' := []) rfl ?_
            exact p_Am_ofDivisors_b114 d x3 h3
          · refine gk_dconst0 (pc := 103) d_Am_ofDivisors_103 ?_
            refine gk_callS (pc := 104) (d := (d + 8)) (w' := gv_R) (as := [.double (0x0000000000000000)]) (n := 1) d_Am_ofDivisors_104 rfl rfl (Nat.le_of_ble_eq_true rfl) tw_1004 tw_317 tw_97 cw_Va_ofNumber hy_Va_ofNumber (Nat.le_of_ble_eq_true rfl) (p_Va_ofNumber (d + 6) (0x0000000000000000) h1) fun x4 h4 => ?_
            refine gk_goto (pc := 107) 114 d_Am_ofDivisors_107 rfl ?_
            refine gk_weak [] (L' := []) rfl ?_
            exact p_Am_ofDivisors_b114 d x4 h4
      · refine gk_bipush (pc := 80) (6 : Int32) d_Am_ofDivisors_80 rfl ?_
        refine gk_callS (pc := 82) (d := (d + 8)) (w' := gv_R) (as := [.int (6 : Int32)]) (n := 1) d_Am_ofDivisors_82 rfl rfl (Nat.le_of_ble_eq_true rfl) tw_996 tw_236 tw_97 cw_Va_ofError hy_Va_ofError (Nat.le_of_ble_eq_true rfl) (p_Va_ofError (d + 6) (6 : Int32) h1) fun x5 h5 => ?_
        exact gk_aret (pc := 85) rfl d_Am_ofDivisors_85 rfl (Or.inl ⟨_, rfl⟩)
    · refine gk_aload_n (pc := 19) 1 d_Am_ofDivisors_19 rfl ?_
      refine gk_iload (pc := 20) 5 d_Am_ofDivisors_20 rfl ?_
      refine gk_callV (pc := 22) (d := (d + 8)) (w' := gv_J) (as := [.int v6]) (n := 1) 4 d_Am_ofDivisors_22 rfl rfl rfl rfl (Nat.le_of_ble_eq_true rfl) tw_1250 tw_1065 tw_1066 tw_96 cw_Ar_whole hy_Ar_whole (Nat.le_of_ble_eq_true rfl) (p_Ar_whole (d + 1) v1 v6 h1) fun x6 h6 => ?_
      refine gk_lstore (pc := 25) (L' := [(7, .long x6), (0, .int v0), (1, va_rf v1), (2, .int v2), (3, .int v3), (4, .long v4), (6, .int v6)]) d_Am_ofDivisors_25 (Nat.le_of_ble_eq_true rfl) rfl ?_
      refine gk_iload_n (pc := 27) 3 d_Am_ofDivisors_27 rfl ?_
      refine gk_if_ne (pc := 28) 38 d_Am_ofDivisors_28 rfl (fun _ => ?_) (fun _ => ?_)
      · refine gk_lload (pc := 31) 0 d_Am_ofDivisors_31 rfl ?_
        refine gk_lconst (pc := 33) (0 : Int64) d_Am_ofDivisors_33 rfl ?_
        refine gk_lcmp (pc := 34) d_Am_ofDivisors_34 ?_
        refine gk_if_ge (pc := 35) 42 d_Am_ofDivisors_35 rfl (fun _ => ?_) (fun _ => ?_)
        · refine gk_iconst (pc := 42) (0 : Int32) d_Am_ofDivisors_42 rfl ?_
          refine gk_weak [1, 2, 4, 5, 6, 0] (L' := [(0, .int v0), (1, va_rf v1), (3, .int v3), (4, .long v4), (6, .int v6), (7, .long x6)]) rfl ?_
          exact p_Am_ofDivisors_b43 d (f_Am_ofDivisors_b10 fu) q10 v0 v1 v3 v4 v6 x6 (0 : Int32) h6
        · refine gk_weak [1, 2, 4, 5, 6, 0] (L' := [(0, .int v0), (1, va_rf v1), (3, .int v3), (4, .long v4), (6, .int v6), (7, .long x6)]) rfl ?_
          exact p_Am_ofDivisors_b38 d (f_Am_ofDivisors_b10 fu) q10 v0 v1 v3 v4 v6 x6 h6
      · refine gk_weak [1, 2, 4, 5, 6, 0] (L' := [(0, .int v0), (1, va_rf v1), (3, .int v3), (4, .long v4), (6, .int v6), (7, .long x6)]) rfl ?_
        exact p_Am_ofDivisors_b38 d (f_Am_ofDivisors_b10 fu) q10 v0 v1 v3 v4 v6 x6 h6
theorem w_Am_ofDivisors (d : Nat) (a0 : Int32) (a1 : Option Nat) (h : gk_H) : gk_P gw_R (d + 9) y_Am_ofDivisors b_Am_ofDivisors 9 (some (.object "ValueAlgebra$Value")) [] (f_Am_ofDivisors a0 a1 h) 0 [(0, .int a0), (1, va_rf a1)] [] h := by
  unfold f_Am_ofDivisors
  refine gk_iconst (pc := 0) (0 : Int32) d_Am_ofDivisors_0 rfl ?_
  refine gk_istore_n (pc := 1) (L' := [(2, .int (0 : Int32)), (0, .int a0), (1, va_rf a1)]) d_Am_ofDivisors_1 (Nat.le_of_ble_eq_true rfl) (by simp [gk_s1, gk_s2, gk_cat_rf, gk_catI, gk_catJ, gk_catD] <;> decide) ?_
  refine gk_iconst (pc := 2) (0 : Int32) d_Am_ofDivisors_2 rfl ?_
  refine gk_istore_n (pc := 3) (L' := [(3, .int (0 : Int32)), (2, .int (0 : Int32)), (0, .int a0), (1, va_rf a1)]) d_Am_ofDivisors_3 (Nat.le_of_ble_eq_true rfl) rfl ?_
  refine gk_lconst (pc := 4) (0 : Int64) d_Am_ofDivisors_4 rfl ?_
  refine gk_lstore (pc := 5) (L' := [(4, .long (0 : Int64)), (3, .int (0 : Int32)), (2, .int (0 : Int32)), (0, .int a0), (1, va_rf a1)]) d_Am_ofDivisors_5 (Nat.le_of_ble_eq_true rfl) rfl ?_
  refine gk_iconst (pc := 7) (0 : Int32) d_Am_ofDivisors_7 rfl ?_
  refine gk_istore (pc := 8) (L' := [(6, .int (0 : Int32)), (4, .long (0 : Int64)), (3, .int (0 : Int32)), (2, .int (0 : Int32)), (0, .int a0), (1, va_rf a1)]) d_Am_ofDivisors_8 (Nat.le_of_ble_eq_true rfl) rfl ?_
  refine gk_weak [4, 5, 3, 2, 1, 0] (L' := [(0, .int a0), (1, va_rf a1), (2, .int (0 : Int32)), (3, .int (0 : Int32)), (4, .long (0 : Int64)), (6, .int (0 : Int32))]) rfl ?_
  exact p_Am_ofDivisors_b10 d gk_F a0 a1 (0 : Int32) (0 : Int32) (0 : Int64) (0 : Int32) h
theorem p_Am_ofDivisors (d : Nat) (a0 : Int32) (a1 : Option Nat) (h : gk_H) : ∀ r h1, f_Am_ofDivisors a0 a1 h = some (r, h1) → gk_M (d + 9) y_Am_ofDivisors b_Am_ofDivisors 9 (some (.object "ValueAlgebra$Value")) [.int a0, va_rf a1] h (.inl (gv_R r)) h1 :=
  fun r h1 e => gk_M_of2 (by decide +kernel) (by simp [lv_args, gk_cat_rf, gk_catI, gk_catJ, gk_catD, gv_V, gv_I, gv_J, gv_D, gv_R]) (by simp [lg_sl, gk_cat_rf, gk_catI, gk_catJ, gk_catD, gv_V, gv_I, gv_J, gv_D, gv_R]) (w_Am_ofDivisors d a0 a1 h r h1 e)
theorem d_Am_quotient_0 : decode b_Am_quotient 0 = .ok (.dload_n 2, 1) := by decide +kernel
theorem d_Am_quotient_1 : decode b_Am_quotient 1 = .ok (.dconst 0, 1) := by decide +kernel
theorem d_Am_quotient_2 : decode b_Am_quotient 2 = .ok (.dcmp .l, 1) := by decide +kernel
theorem d_Am_quotient_3 : decode b_Am_quotient 3 = .ok (.ifCond .ne 8, 3) := by decide +kernel
theorem d_Am_quotient_6 : decode b_Am_quotient 6 = .ok (.iconst 2, 1) := by decide +kernel
theorem d_Am_quotient_7 : decode b_Am_quotient 7 = .ok (.invokestatic 80, 3) := by decide +kernel
theorem d_Am_quotient_10 : decode b_Am_quotient 10 = .ok (.areturn, 1) := by decide +kernel
theorem d_Am_quotient_11 : decode b_Am_quotient 11 = .ok (.dload_n 0, 1) := by decide +kernel
theorem d_Am_quotient_12 : decode b_Am_quotient 12 = .ok (.dload_n 2, 1) := by decide +kernel
theorem d_Am_quotient_13 : decode b_Am_quotient 13 = .ok (.ddiv, 1) := by decide +kernel
theorem d_Am_quotient_14 : decode b_Am_quotient 14 = .ok (.invokestatic 92, 3) := by decide +kernel
theorem d_Am_quotient_17 : decode b_Am_quotient 17 = .ok (.invokestatic 19, 3) := by decide +kernel
theorem d_Am_quotient_20 : decode b_Am_quotient 20 = .ok (.areturn, 1) := by decide +kernel
theorem w_Am_quotient (d : Nat) (a0 : UInt64) (a1 : UInt64) (h : gk_H) : gk_P gw_R (d + 3) y_Am_quotient b_Am_quotient 4 (some (.object "ValueAlgebra$Value")) [] (f_Am_quotient a0 a1 h) 0 [(0, .double a0), (2, .double a1)] [] h := by
  unfold f_Am_quotient
  refine gk_dload_n (pc := 0) 1 d_Am_quotient_0 rfl ?_
  refine gk_dconst0 (pc := 1) d_Am_quotient_1 ?_
  refine gk_dcmp (pc := 2) d_Am_quotient_2 ?_
  refine gk_if_ne (pc := 3) 11 d_Am_quotient_3 rfl (fun _ => ?_) (fun _ => ?_)
  · refine gk_iconst (pc := 6) (2 : Int32) d_Am_quotient_6 rfl ?_
    refine gk_callS (pc := 7) (d := (d + 2)) (w' := gv_R) (as := [.int (2 : Int32)]) (n := 1) d_Am_quotient_7 rfl rfl (Nat.le_of_ble_eq_true rfl) tw_996 tw_236 tw_97 cw_Va_ofError hy_Va_ofError (Nat.le_of_ble_eq_true rfl) (p_Va_ofError d (2 : Int32) h) fun x1 h1 => ?_
    exact gk_aret (pc := 10) rfl d_Am_quotient_10 rfl (Or.inl ⟨_, rfl⟩)
  · refine gk_dload_n (pc := 11) 0 d_Am_quotient_11 rfl ?_
    refine gk_dload_n (pc := 12) 1 d_Am_quotient_12 rfl ?_
    refine gk_ddivN (pc := 13) d_Am_quotient_13 fun x2 => ?_
    refine gk_callS (pc := 14) (d := (d + 2)) (w' := gv_D) (as := [.double x2]) (n := 1) d_Am_quotient_14 rfl rfl (Nat.le_of_ble_eq_true rfl) tw_995 tw_903 tw_117 cw_Am_wholePart hy_Am_wholePart (Nat.le_of_ble_eq_true rfl) (p_Am_wholePart (d + 1) x2 h) fun x3 h2 => ?_
    refine gk_callS (pc := 17) (d := (d + 2)) (w' := gv_R) (as := [.double x3]) (n := 1) d_Am_quotient_17 rfl rfl (Nat.le_of_ble_eq_true rfl) tw_1004 tw_317 tw_97 cw_Va_ofNumber hy_Va_ofNumber (Nat.le_of_ble_eq_true rfl) (p_Va_ofNumber d x3 h2) fun x4 h3 => ?_
    exact gk_aret (pc := 20) rfl d_Am_quotient_20 rfl (Or.inl ⟨_, rfl⟩)
theorem p_Am_quotient (d : Nat) (a0 : UInt64) (a1 : UInt64) (h : gk_H) : ∀ r h1, f_Am_quotient a0 a1 h = some (r, h1) → gk_M (d + 3) y_Am_quotient b_Am_quotient 4 (some (.object "ValueAlgebra$Value")) [.double a0, .double a1] h (.inl (gv_R r)) h1 :=
  fun r h1 e => gk_M_of2 (by decide +kernel) (by simp [lv_args, gk_cat_rf, gk_catI, gk_catJ, gk_catD, gv_V, gv_I, gv_J, gv_D, gv_R]) (by simp [lg_sl, gk_cat_rf, gk_catI, gk_catJ, gk_catD, gv_V, gv_I, gv_J, gv_D, gv_R]) (w_Am_quotient d a0 a1 h r h1 e)
theorem d_Am_modulo_0 : decode b_Am_modulo 0 = .ok (.dload_n 2, 1) := by decide +kernel
theorem d_Am_modulo_1 : decode b_Am_modulo 1 = .ok (.dconst 0, 1) := by decide +kernel
theorem d_Am_modulo_2 : decode b_Am_modulo 2 = .ok (.dcmp .l, 1) := by decide +kernel
theorem d_Am_modulo_3 : decode b_Am_modulo 3 = .ok (.ifCond .ne 8, 3) := by decide +kernel
theorem d_Am_modulo_6 : decode b_Am_modulo 6 = .ok (.iconst 2, 1) := by decide +kernel
theorem d_Am_modulo_7 : decode b_Am_modulo 7 = .ok (.invokestatic 80, 3) := by decide +kernel
theorem d_Am_modulo_10 : decode b_Am_modulo 10 = .ok (.areturn, 1) := by decide +kernel
theorem d_Am_modulo_11 : decode b_Am_modulo 11 = .ok (.dload_n 0, 1) := by decide +kernel
theorem d_Am_modulo_12 : decode b_Am_modulo 12 = .ok (.dload_n 2, 1) := by decide +kernel
theorem d_Am_modulo_13 : decode b_Am_modulo 13 = .ok (.ddiv, 1) := by decide +kernel
theorem d_Am_modulo_14 : decode b_Am_modulo 14 = .ok (.dstore 4, 2) := by decide +kernel
theorem d_Am_modulo_16 : decode b_Am_modulo 16 = .ok (.dload 4, 2) := by decide +kernel
theorem d_Am_modulo_18 : decode b_Am_modulo 18 = .ok (.invokestatic 105, 3) := by decide +kernel
theorem d_Am_modulo_21 : decode b_Am_modulo 21 = .ok (.ifCond .ne 9, 3) := by decide +kernel
theorem d_Am_modulo_24 : decode b_Am_modulo 24 = .ok (.bipush 6, 2) := by decide +kernel
theorem d_Am_modulo_26 : decode b_Am_modulo 26 = .ok (.invokestatic 80, 3) := by decide +kernel
theorem d_Am_modulo_29 : decode b_Am_modulo 29 = .ok (.areturn, 1) := by decide +kernel
theorem d_Am_modulo_30 : decode b_Am_modulo 30 = .ok (.dload_n 0, 1) := by decide +kernel
theorem d_Am_modulo_31 : decode b_Am_modulo 31 = .ok (.dload_n 2, 1) := by decide +kernel
theorem d_Am_modulo_32 : decode b_Am_modulo 32 = .ok (.dload 4, 2) := by decide +kernel
theorem d_Am_modulo_34 : decode b_Am_modulo 34 = .ok (.invokestatic 29, 3) := by decide +kernel
theorem d_Am_modulo_37 : decode b_Am_modulo 37 = .ok (.dmul, 1) := by decide +kernel
theorem d_Am_modulo_38 : decode b_Am_modulo 38 = .ok (.dsub, 1) := by decide +kernel
theorem d_Am_modulo_39 : decode b_Am_modulo 39 = .ok (.invokestatic 19, 3) := by decide +kernel
theorem d_Am_modulo_42 : decode b_Am_modulo 42 = .ok (.areturn, 1) := by decide +kernel
theorem w_Am_modulo (d : Nat) (a0 : UInt64) (a1 : UInt64) (h : gk_H) : gk_P gw_R (d + 3) y_Am_modulo b_Am_modulo 6 (some (.object "ValueAlgebra$Value")) [] (f_Am_modulo a0 a1 h) 0 [(0, .double a0), (2, .double a1)] [] h := by
  unfold f_Am_modulo
  refine gk_dload_n (pc := 0) 1 d_Am_modulo_0 rfl ?_
  refine gk_dconst0 (pc := 1) d_Am_modulo_1 ?_
  refine gk_dcmp (pc := 2) d_Am_modulo_2 ?_
  refine gk_if_ne (pc := 3) 11 d_Am_modulo_3 rfl (fun _ => ?_) (fun _ => ?_)
  · refine gk_iconst (pc := 6) (2 : Int32) d_Am_modulo_6 rfl ?_
    refine gk_callS (pc := 7) (d := (d + 2)) (w' := gv_R) (as := [.int (2 : Int32)]) (n := 1) d_Am_modulo_7 rfl rfl (Nat.le_of_ble_eq_true rfl) tw_996 tw_236 tw_97 cw_Va_ofError hy_Va_ofError (Nat.le_of_ble_eq_true rfl) (p_Va_ofError d (2 : Int32) h) fun x1 h1 => ?_
    exact gk_aret (pc := 10) rfl d_Am_modulo_10 rfl (Or.inl ⟨_, rfl⟩)
  · refine gk_dload_n (pc := 11) 0 d_Am_modulo_11 rfl ?_
    refine gk_dload_n (pc := 12) 1 d_Am_modulo_12 rfl ?_
    refine gk_ddivN (pc := 13) d_Am_modulo_13 fun x2 => ?_
    refine gk_dstore (pc := 14) (L' := [(4, .double x2), (0, .double a0), (2, .double a1)]) d_Am_modulo_14 (Nat.le_of_ble_eq_true rfl) rfl ?_
    refine gk_dload (pc := 16) 0 d_Am_modulo_16 rfl ?_
    refine gk_callS (pc := 18) (d := (d + 2)) (w' := gv_I) (as := [.double x2]) (n := 1) d_Am_modulo_18 rfl rfl (Nat.le_of_ble_eq_true rfl) tw_1003 tw_320 tw_97 cw_Va_isFinite hy_Va_isFinite (Nat.le_of_ble_eq_true rfl) (p_Va_isFinite (d + 2) x2 h) fun x3 h2 => ?_
    refine gk_if_ne (pc := 21) 30 d_Am_modulo_21 rfl (fun _ => ?_) (fun _ => ?_)
    · refine gk_bipush (pc := 24) (6 : Int32) d_Am_modulo_24 rfl ?_
      refine gk_callS (pc := 26) (d := (d + 2)) (w' := gv_R) (as := [.int (6 : Int32)]) (n := 1) d_Am_modulo_26 rfl rfl (Nat.le_of_ble_eq_true rfl) tw_996 tw_236 tw_97 cw_Va_ofError hy_Va_ofError (Nat.le_of_ble_eq_true rfl) (p_Va_ofError d (6 : Int32) h2) fun x4 h3 => ?_
      exact gk_aret (pc := 29) rfl d_Am_modulo_29 rfl (Or.inl ⟨_, rfl⟩)
    · refine gk_dload_n (pc := 30) 1 d_Am_modulo_30 rfl ?_
      refine gk_dload_n (pc := 31) 2 d_Am_modulo_31 rfl ?_
      refine gk_dload (pc := 32) 0 d_Am_modulo_32 rfl ?_
      refine gk_callS (pc := 34) (d := (d + 2)) (w' := gv_D) (as := [.double x2]) (n := 1) d_Am_modulo_34 rfl rfl (Nat.le_of_ble_eq_true rfl) tw_1236 tw_1237 tw_117 cw_Am_floor hy_Am_floor (Nat.le_of_ble_eq_true rfl) (p_Am_floor d x2 h2) fun x5 h4 => ?_
      refine gk_dmulN (pc := 37) d_Am_modulo_37 fun x6 => ?_
      refine gk_dsubN (pc := 38) d_Am_modulo_38 fun x7 => ?_
      refine gk_callS (pc := 39) (d := (d + 2)) (w' := gv_R) (as := [.double x7]) (n := 1) d_Am_modulo_39 rfl rfl (Nat.le_of_ble_eq_true rfl) tw_1004 tw_317 tw_97 cw_Va_ofNumber hy_Va_ofNumber (Nat.le_of_ble_eq_true rfl) (p_Va_ofNumber d x7 h4) fun x8 h5 => ?_
      exact gk_aret (pc := 42) rfl d_Am_modulo_42 rfl (Or.inl ⟨_, rfl⟩)
theorem p_Am_modulo (d : Nat) (a0 : UInt64) (a1 : UInt64) (h : gk_H) : ∀ r h1, f_Am_modulo a0 a1 h = some (r, h1) → gk_M (d + 3) y_Am_modulo b_Am_modulo 6 (some (.object "ValueAlgebra$Value")) [.double a0, .double a1] h (.inl (gv_R r)) h1 :=
  fun r h1 e => gk_M_of2 (by decide +kernel) (by simp [lv_args, gk_cat_rf, gk_catI, gk_catJ, gk_catD, gv_V, gv_I, gv_J, gv_D, gv_R]) (by simp [lg_sl, gk_cat_rf, gk_catI, gk_catJ, gk_catD, gv_V, gv_I, gv_J, gv_D, gv_R]) (w_Am_modulo d a0 a1 h r h1 e)
theorem d_Am_answer_0 : decode b_Am_answer 0 = .ok (.iload_n 0, 1) := by decide +kernel
theorem d_Am_answer_1 : decode b_Am_answer 1 = .ok (.tableswitch 267 19 34 #[79, 91, 104, 116, 130, 144, 158, 158, 164, 173, 187, 196, 205, 219, 233, 249], 79) := by decide +kernel
theorem d_Am_answer_80 : decode b_Am_answer 80 = .ok (.aload_n 1, 1) := by decide +kernel
theorem d_Am_answer_81 : decode b_Am_answer 81 = .ok (.iconst 0, 1) := by decide +kernel
theorem d_Am_answer_82 : decode b_Am_answer 82 = .ok (.invokevirtual 7, 3) := by decide +kernel
theorem d_Am_answer_85 : decode b_Am_answer 85 = .ok (.invokestatic 13, 3) := by decide +kernel
theorem d_Am_answer_88 : decode b_Am_answer 88 = .ok (.invokestatic 19, 3) := by decide +kernel
theorem d_Am_answer_91 : decode b_Am_answer 91 = .ok (.areturn, 1) := by decide +kernel
theorem d_Am_answer_92 : decode b_Am_answer 92 = .ok (.aload_n 1, 1) := by decide +kernel
theorem d_Am_answer_93 : decode b_Am_answer 93 = .ok (.iconst 0, 1) := by decide +kernel
theorem d_Am_answer_94 : decode b_Am_answer 94 = .ok (.invokevirtual 7, 3) := by decide +kernel
theorem d_Am_answer_97 : decode b_Am_answer 97 = .ok (.invokestatic 25, 3) := by decide +kernel
theorem d_Am_answer_100 : decode b_Am_answer 100 = .ok (.i2d, 1) := by decide +kernel
theorem d_Am_answer_101 : decode b_Am_answer 101 = .ok (.invokestatic 19, 3) := by decide +kernel
theorem d_Am_answer_104 : decode b_Am_answer 104 = .ok (.areturn, 1) := by decide +kernel
theorem d_Am_answer_105 : decode b_Am_answer 105 = .ok (.aload_n 1, 1) := by decide +kernel
theorem d_Am_answer_106 : decode b_Am_answer 106 = .ok (.iconst 0, 1) := by decide +kernel
theorem d_Am_answer_107 : decode b_Am_answer 107 = .ok (.invokevirtual 7, 3) := by decide +kernel
theorem d_Am_answer_110 : decode b_Am_answer 110 = .ok (.invokestatic 29, 3) := by decide +kernel
theorem d_Am_answer_113 : decode b_Am_answer 113 = .ok (.invokestatic 19, 3) := by decide +kernel
theorem d_Am_answer_116 : decode b_Am_answer 116 = .ok (.areturn, 1) := by decide +kernel
theorem d_Am_answer_117 : decode b_Am_answer 117 = .ok (.aload_n 1, 1) := by decide +kernel
theorem d_Am_answer_118 : decode b_Am_answer 118 = .ok (.iconst 0, 1) := by decide +kernel
theorem d_Am_answer_119 : decode b_Am_answer 119 = .ok (.invokevirtual 7, 3) := by decide +kernel
theorem d_Am_answer_122 : decode b_Am_answer 122 = .ok (.aload_n 1, 1) := by decide +kernel
theorem d_Am_answer_123 : decode b_Am_answer 123 = .ok (.iconst 1, 1) := by decide +kernel
theorem d_Am_answer_124 : decode b_Am_answer 124 = .ok (.invokevirtual 7, 3) := by decide +kernel
theorem d_Am_answer_127 : decode b_Am_answer 127 = .ok (.invokestatic 32, 3) := by decide +kernel
theorem d_Am_answer_130 : decode b_Am_answer 130 = .ok (.areturn, 1) := by decide +kernel
theorem d_Am_answer_131 : decode b_Am_answer 131 = .ok (.aload_n 1, 1) := by decide +kernel
theorem d_Am_answer_132 : decode b_Am_answer 132 = .ok (.iconst 0, 1) := by decide +kernel
theorem d_Am_answer_133 : decode b_Am_answer 133 = .ok (.invokevirtual 7, 3) := by decide +kernel
theorem d_Am_answer_136 : decode b_Am_answer 136 = .ok (.aload_n 1, 1) := by decide +kernel
theorem d_Am_answer_137 : decode b_Am_answer 137 = .ok (.iconst 1, 1) := by decide +kernel
theorem d_Am_answer_138 : decode b_Am_answer 138 = .ok (.invokevirtual 7, 3) := by decide +kernel
theorem d_Am_answer_141 : decode b_Am_answer 141 = .ok (.invokestatic 36, 3) := by decide +kernel
theorem d_Am_answer_144 : decode b_Am_answer 144 = .ok (.areturn, 1) := by decide +kernel
theorem d_Am_answer_145 : decode b_Am_answer 145 = .ok (.aload_n 1, 1) := by decide +kernel
theorem d_Am_answer_146 : decode b_Am_answer 146 = .ok (.iconst 0, 1) := by decide +kernel
theorem d_Am_answer_147 : decode b_Am_answer 147 = .ok (.invokevirtual 7, 3) := by decide +kernel
theorem d_Am_answer_150 : decode b_Am_answer 150 = .ok (.aload_n 1, 1) := by decide +kernel
theorem d_Am_answer_151 : decode b_Am_answer 151 = .ok (.iconst 1, 1) := by decide +kernel
theorem d_Am_answer_152 : decode b_Am_answer 152 = .ok (.invokevirtual 7, 3) := by decide +kernel
theorem d_Am_answer_155 : decode b_Am_answer 155 = .ok (.invokestatic 39, 3) := by decide +kernel
theorem d_Am_answer_158 : decode b_Am_answer 158 = .ok (.areturn, 1) := by decide +kernel
theorem d_Am_answer_159 : decode b_Am_answer 159 = .ok (.iload_n 0, 1) := by decide +kernel
theorem d_Am_answer_160 : decode b_Am_answer 160 = .ok (.aload_n 1, 1) := by decide +kernel
theorem d_Am_answer_161 : decode b_Am_answer 161 = .ok (.invokestatic 42, 3) := by decide +kernel
theorem d_Am_answer_164 : decode b_Am_answer 164 = .ok (.areturn, 1) := by decide +kernel
theorem d_Am_answer_165 : decode b_Am_answer 165 = .ok (.aload_n 1, 1) := by decide +kernel
theorem d_Am_answer_166 : decode b_Am_answer 166 = .ok (.iconst 0, 1) := by decide +kernel
theorem d_Am_answer_167 : decode b_Am_answer 167 = .ok (.invokevirtual 46, 3) := by decide +kernel
theorem d_Am_answer_170 : decode b_Am_answer 170 = .ok (.invokestatic 50, 3) := by decide +kernel
theorem d_Am_answer_173 : decode b_Am_answer 173 = .ok (.areturn, 1) := by decide +kernel
theorem d_Am_answer_174 : decode b_Am_answer 174 = .ok (.aload_n 1, 1) := by decide +kernel
theorem d_Am_answer_175 : decode b_Am_answer 175 = .ok (.iconst 0, 1) := by decide +kernel
theorem d_Am_answer_176 : decode b_Am_answer 176 = .ok (.invokevirtual 46, 3) := by decide +kernel
theorem d_Am_answer_179 : decode b_Am_answer 179 = .ok (.aload_n 1, 1) := by decide +kernel
theorem d_Am_answer_180 : decode b_Am_answer 180 = .ok (.iconst 1, 1) := by decide +kernel
theorem d_Am_answer_181 : decode b_Am_answer 181 = .ok (.invokevirtual 46, 3) := by decide +kernel
theorem d_Am_answer_184 : decode b_Am_answer 184 = .ok (.invokestatic 54, 3) := by decide +kernel
theorem d_Am_answer_187 : decode b_Am_answer 187 = .ok (.areturn, 1) := by decide +kernel
theorem d_Am_answer_188 : decode b_Am_answer 188 = .ok (.aload_n 1, 1) := by decide +kernel
theorem d_Am_answer_189 : decode b_Am_answer 189 = .ok (.iconst 0, 1) := by decide +kernel
theorem d_Am_answer_190 : decode b_Am_answer 190 = .ok (.invokevirtual 7, 3) := by decide +kernel
theorem d_Am_answer_193 : decode b_Am_answer 193 = .ok (.invokestatic 58, 3) := by decide +kernel
theorem d_Am_answer_196 : decode b_Am_answer 196 = .ok (.areturn, 1) := by decide +kernel
theorem d_Am_answer_197 : decode b_Am_answer 197 = .ok (.aload_n 1, 1) := by decide +kernel
theorem d_Am_answer_198 : decode b_Am_answer 198 = .ok (.iconst 0, 1) := by decide +kernel
theorem d_Am_answer_199 : decode b_Am_answer 199 = .ok (.invokevirtual 7, 3) := by decide +kernel
theorem d_Am_answer_202 : decode b_Am_answer 202 = .ok (.invokestatic 61, 3) := by decide +kernel
theorem d_Am_answer_205 : decode b_Am_answer 205 = .ok (.areturn, 1) := by decide +kernel
theorem d_Am_answer_206 : decode b_Am_answer 206 = .ok (.aload_n 1, 1) := by decide +kernel
theorem d_Am_answer_207 : decode b_Am_answer 207 = .ok (.iconst 0, 1) := by decide +kernel
theorem d_Am_answer_208 : decode b_Am_answer 208 = .ok (.invokevirtual 7, 3) := by decide +kernel
theorem d_Am_answer_211 : decode b_Am_answer 211 = .ok (.aload_n 1, 1) := by decide +kernel
theorem d_Am_answer_212 : decode b_Am_answer 212 = .ok (.iconst 1, 1) := by decide +kernel
theorem d_Am_answer_213 : decode b_Am_answer 213 = .ok (.invokevirtual 7, 3) := by decide +kernel
theorem d_Am_answer_216 : decode b_Am_answer 216 = .ok (.invokestatic 64, 3) := by decide +kernel
theorem d_Am_answer_219 : decode b_Am_answer 219 = .ok (.areturn, 1) := by decide +kernel
theorem d_Am_answer_220 : decode b_Am_answer 220 = .ok (.aload_n 1, 1) := by decide +kernel
theorem d_Am_answer_221 : decode b_Am_answer 221 = .ok (.iconst 0, 1) := by decide +kernel
theorem d_Am_answer_222 : decode b_Am_answer 222 = .ok (.invokevirtual 7, 3) := by decide +kernel
theorem d_Am_answer_225 : decode b_Am_answer 225 = .ok (.aload_n 1, 1) := by decide +kernel
theorem d_Am_answer_226 : decode b_Am_answer 226 = .ok (.iconst 1, 1) := by decide +kernel
theorem d_Am_answer_227 : decode b_Am_answer 227 = .ok (.invokevirtual 7, 3) := by decide +kernel
theorem d_Am_answer_230 : decode b_Am_answer 230 = .ok (.invokestatic 67, 3) := by decide +kernel
theorem d_Am_answer_233 : decode b_Am_answer 233 = .ok (.areturn, 1) := by decide +kernel
theorem d_Am_answer_234 : decode b_Am_answer 234 = .ok (.aload_n 1, 1) := by decide +kernel
theorem d_Am_answer_235 : decode b_Am_answer 235 = .ok (.iconst 0, 1) := by decide +kernel
theorem d_Am_answer_236 : decode b_Am_answer 236 = .ok (.invokevirtual 7, 3) := by decide +kernel
theorem d_Am_answer_239 : decode b_Am_answer 239 = .ok (.aload_n 1, 1) := by decide +kernel
theorem d_Am_answer_240 : decode b_Am_answer 240 = .ok (.iconst 1, 1) := by decide +kernel
theorem d_Am_answer_241 : decode b_Am_answer 241 = .ok (.lconst 0, 1) := by decide +kernel
theorem d_Am_answer_242 : decode b_Am_answer 242 = .ok (.invokevirtual 70, 3) := by decide +kernel
theorem d_Am_answer_245 : decode b_Am_answer 245 = .ok (.dconst 0, 1) := by decide +kernel
theorem d_Am_answer_246 : decode b_Am_answer 246 = .ok (.invokestatic 74, 3) := by decide +kernel
theorem d_Am_answer_249 : decode b_Am_answer 249 = .ok (.areturn, 1) := by decide +kernel
theorem d_Am_answer_250 : decode b_Am_answer 250 = .ok (.aload_n 1, 1) := by decide +kernel
theorem d_Am_answer_251 : decode b_Am_answer 251 = .ok (.iconst 0, 1) := by decide +kernel
theorem d_Am_answer_252 : decode b_Am_answer 252 = .ok (.invokevirtual 7, 3) := by decide +kernel
theorem d_Am_answer_255 : decode b_Am_answer 255 = .ok (.aload_n 1, 1) := by decide +kernel
theorem d_Am_answer_256 : decode b_Am_answer 256 = .ok (.iconst 1, 1) := by decide +kernel
theorem d_Am_answer_257 : decode b_Am_answer 257 = .ok (.lconst 0, 1) := by decide +kernel
theorem d_Am_answer_258 : decode b_Am_answer 258 = .ok (.invokevirtual 70, 3) := by decide +kernel
theorem d_Am_answer_261 : decode b_Am_answer 261 = .ok (.ldc2_w 78, 3) := by decide +kernel
theorem d_Am_answer_264 : decode b_Am_answer 264 = .ok (.invokestatic 74, 3) := by decide +kernel
theorem d_Am_answer_267 : decode b_Am_answer 267 = .ok (.areturn, 1) := by decide +kernel
theorem d_Am_answer_268 : decode b_Am_answer 268 = .ok (.iconst 3, 1) := by decide +kernel
theorem d_Am_answer_269 : decode b_Am_answer 269 = .ok (.invokestatic 80, 3) := by decide +kernel
theorem d_Am_answer_272 : decode b_Am_answer 272 = .ok (.areturn, 1) := by decide +kernel
theorem p_Am_answer_b159 (d : Nat)  (v0 : Int32) (v1 : Option Nat) (h : gk_H) : gk_P gw_R (d + 10) y_Am_answer b_Am_answer 2 (some (.object "ValueAlgebra$Value")) [] (f_Am_answer_b159  v0 v1 h) 159 [(0, .int v0), (1, va_rf v1)] [] h := by
  unfold f_Am_answer_b159
  refine gk_iload_n (pc := 159) 0 d_Am_answer_159 rfl ?_
  refine gk_aload_n (pc := 160) 1 d_Am_answer_160 rfl ?_
  refine gk_callS (pc := 161) (d := (d + 9)) (w' := gv_R) (as := [.int v0, va_rf v1]) (n := 2) d_Am_answer_161 rfl rfl (Nat.le_of_ble_eq_true rfl) tw_1246 tw_1247 tw_117 cw_Am_ofDivisors hy_Am_ofDivisors (Nat.le_of_ble_eq_true rfl) (p_Am_ofDivisors d v0 v1 h) fun x1 h1 => ?_
  exact gk_aret (pc := 164) rfl d_Am_answer_164 rfl (Or.inl ⟨_, rfl⟩)
theorem w_Am_answer (d : Nat) (a0 : Int32) (a1 : Option Nat) (h : gk_H) : gk_P gw_R (d + 10) y_Am_answer b_Am_answer 2 (some (.object "ValueAlgebra$Value")) [] (f_Am_answer a0 a1 h) 0 [(0, .int a0), (1, va_rf a1)] [] h := by
  unfold f_Am_answer
  refine gk_iload_n (pc := 0) 0 d_Am_answer_0 rfl ?_
  refine gk_ite (fun z1_0 => ?_) (fun z1_0 => ?_)
  · refine gk_tsw_in (pc := 1) (19 : Int32) 80 d_Am_answer_1 z1_0 (by decide) (by decide) rfl rfl ?_
    refine gk_aload_n (pc := 80) 1 d_Am_answer_80 rfl ?_
    refine gk_iconst (pc := 81) (0 : Int32) d_Am_answer_81 rfl ?_
    refine gk_callV (pc := 82) (d := (d + 9)) (w' := gv_D) (as := [.int (0 : Int32)]) (n := 1) 4 d_Am_answer_82 rfl rfl rfl rfl (Nat.le_of_ble_eq_true rfl) tw_1232 tw_788 tw_789 tw_96 cw_Ar_amount hy_Ar_amount (Nat.le_of_ble_eq_true rfl) (p_Ar_amount (d + 3) a1 (0 : Int32) h) fun x1 h1 => ?_
    refine gk_callS (pc := 85) (d := (d + 9)) (w' := gv_D) (as := [.double x1]) (n := 1) d_Am_answer_85 rfl rfl (Nat.le_of_ble_eq_true rfl) tw_997 tw_998 tw_117 cw_Am_sizeOf hy_Am_sizeOf (Nat.le_of_ble_eq_true rfl) (p_Am_sizeOf (d + 9) x1 h1) fun x2 h2 => ?_
    refine gk_callS (pc := 88) (d := (d + 9)) (w' := gv_R) (as := [.double x2]) (n := 1) d_Am_answer_88 rfl rfl (Nat.le_of_ble_eq_true rfl) tw_1004 tw_317 tw_97 cw_Va_ofNumber hy_Va_ofNumber (Nat.le_of_ble_eq_true rfl) (p_Va_ofNumber (d + 7) x2 h2) fun x3 h3 => ?_
    exact gk_aret (pc := 91) rfl d_Am_answer_91 rfl (Or.inl ⟨_, rfl⟩)
  ·
    refine gk_ite (fun z1_1 => ?_) (fun z1_1 => ?_)
    · refine gk_tsw_in (pc := 1) (20 : Int32) 92 d_Am_answer_1 z1_1 (by decide) (by decide) rfl rfl ?_
      refine gk_aload_n (pc := 92) 1 d_Am_answer_92 rfl ?_
      refine gk_iconst (pc := 93) (0 : Int32) d_Am_answer_93 rfl ?_
      refine gk_callV (pc := 94) (d := (d + 9)) (w' := gv_D) (as := [.int (0 : Int32)]) (n := 1) 4 d_Am_answer_94 rfl rfl rfl rfl (Nat.le_of_ble_eq_true rfl) tw_1232 tw_788 tw_789 tw_96 cw_Ar_amount hy_Ar_amount (Nat.le_of_ble_eq_true rfl) (p_Ar_amount (d + 3) a1 (0 : Int32) h) fun x4 h4 => ?_
      refine gk_callS (pc := 97) (d := (d + 9)) (w' := gv_I) (as := [.double x4]) (n := 1) d_Am_answer_97 rfl rfl (Nat.le_of_ble_eq_true rfl) tw_1233 tw_1234 tw_117 cw_Am_sign hy_Am_sign (Nat.le_of_ble_eq_true rfl) (p_Am_sign (d + 9) x4 h4) fun x5 h5 => ?_
      refine gk_i2d (pc := 100) d_Am_answer_100 ?_
      refine gk_callS (pc := 101) (d := (d + 9)) (w' := gv_R) (as := [.double (FP.i2d x5)]) (n := 1) d_Am_answer_101 rfl rfl (Nat.le_of_ble_eq_true rfl) tw_1004 tw_317 tw_97 cw_Va_ofNumber hy_Va_ofNumber (Nat.le_of_ble_eq_true rfl) (p_Va_ofNumber (d + 7) (FP.i2d x5) h5) fun x6 h6 => ?_
      exact gk_aret (pc := 104) rfl d_Am_answer_104 rfl (Or.inl ⟨_, rfl⟩)
    ·
      refine gk_ite (fun z1_2 => ?_) (fun z1_2 => ?_)
      · refine gk_tsw_in (pc := 1) (21 : Int32) 105 d_Am_answer_1 z1_2 (by decide) (by decide) rfl rfl ?_
        refine gk_aload_n (pc := 105) 1 d_Am_answer_105 rfl ?_
        refine gk_iconst (pc := 106) (0 : Int32) d_Am_answer_106 rfl ?_
        refine gk_callV (pc := 107) (d := (d + 9)) (w' := gv_D) (as := [.int (0 : Int32)]) (n := 1) 4 d_Am_answer_107 rfl rfl rfl rfl (Nat.le_of_ble_eq_true rfl) tw_1232 tw_788 tw_789 tw_96 cw_Ar_amount hy_Ar_amount (Nat.le_of_ble_eq_true rfl) (p_Ar_amount (d + 3) a1 (0 : Int32) h) fun x7 h7 => ?_
        refine gk_callS (pc := 110) (d := (d + 9)) (w' := gv_D) (as := [.double x7]) (n := 1) d_Am_answer_110 rfl rfl (Nat.le_of_ble_eq_true rfl) tw_1236 tw_1237 tw_117 cw_Am_floor hy_Am_floor (Nat.le_of_ble_eq_true rfl) (p_Am_floor (d + 7) x7 h7) fun x8 h8 => ?_
        refine gk_callS (pc := 113) (d := (d + 9)) (w' := gv_R) (as := [.double x8]) (n := 1) d_Am_answer_113 rfl rfl (Nat.le_of_ble_eq_true rfl) tw_1004 tw_317 tw_97 cw_Va_ofNumber hy_Va_ofNumber (Nat.le_of_ble_eq_true rfl) (p_Va_ofNumber (d + 7) x8 h8) fun x9 h9 => ?_
        exact gk_aret (pc := 116) rfl d_Am_answer_116 rfl (Or.inl ⟨_, rfl⟩)
      ·
        refine gk_ite (fun z1_3 => ?_) (fun z1_3 => ?_)
        · refine gk_tsw_in (pc := 1) (22 : Int32) 117 d_Am_answer_1 z1_3 (by decide) (by decide) rfl rfl ?_
          refine gk_aload_n (pc := 117) 1 d_Am_answer_117 rfl ?_
          refine gk_iconst (pc := 118) (0 : Int32) d_Am_answer_118 rfl ?_
          refine gk_callV (pc := 119) (d := (d + 9)) (w' := gv_D) (as := [.int (0 : Int32)]) (n := 1) 4 d_Am_answer_119 rfl rfl rfl rfl (Nat.le_of_ble_eq_true rfl) tw_1232 tw_788 tw_789 tw_96 cw_Ar_amount hy_Ar_amount (Nat.le_of_ble_eq_true rfl) (p_Ar_amount (d + 3) a1 (0 : Int32) h) fun x10 h10 => ?_
          refine gk_aload_n (pc := 122) 1 d_Am_answer_122 rfl ?_
          refine gk_iconst (pc := 123) (1 : Int32) d_Am_answer_123 rfl ?_
          refine gk_callV (pc := 124) (d := (d + 9)) (w' := gv_D) (as := [.int (1 : Int32)]) (n := 1) 4 d_Am_answer_124 rfl rfl rfl rfl (Nat.le_of_ble_eq_true rfl) tw_1232 tw_788 tw_789 tw_96 cw_Ar_amount hy_Ar_amount (Nat.le_of_ble_eq_true rfl) (p_Ar_amount (d + 3) a1 (1 : Int32) h10) fun x11 h11 => ?_
          refine gk_callS (pc := 127) (d := (d + 9)) (w' := gv_R) (as := [.double x10, .double x11]) (n := 2) d_Am_answer_127 rfl rfl (Nat.le_of_ble_eq_true rfl) tw_1239 tw_991 tw_117 cw_Am_power hy_Am_power (Nat.le_of_ble_eq_true rfl) (p_Am_power (d + 6) x10 x11 h11) fun x12 h12 => ?_
          exact gk_aret (pc := 130) rfl d_Am_answer_130 rfl (Or.inl ⟨_, rfl⟩)
        ·
          refine gk_ite (fun z1_4 => ?_) (fun z1_4 => ?_)
          · refine gk_tsw_in (pc := 1) (23 : Int32) 131 d_Am_answer_1 z1_4 (by decide) (by decide) rfl rfl ?_
            refine gk_aload_n (pc := 131) 1 d_Am_answer_131 rfl ?_
            refine gk_iconst (pc := 132) (0 : Int32) d_Am_answer_132 rfl ?_
            refine gk_callV (pc := 133) (d := (d + 9)) (w' := gv_D) (as := [.int (0 : Int32)]) (n := 1) 4 d_Am_answer_133 rfl rfl rfl rfl (Nat.le_of_ble_eq_true rfl) tw_1232 tw_788 tw_789 tw_96 cw_Ar_amount hy_Ar_amount (Nat.le_of_ble_eq_true rfl) (p_Ar_amount (d + 3) a1 (0 : Int32) h) fun x13 h13 => ?_
            refine gk_aload_n (pc := 136) 1 d_Am_answer_136 rfl ?_
            refine gk_iconst (pc := 137) (1 : Int32) d_Am_answer_137 rfl ?_
            refine gk_callV (pc := 138) (d := (d + 9)) (w' := gv_D) (as := [.int (1 : Int32)]) (n := 1) 4 d_Am_answer_138 rfl rfl rfl rfl (Nat.le_of_ble_eq_true rfl) tw_1232 tw_788 tw_789 tw_96 cw_Ar_amount hy_Ar_amount (Nat.le_of_ble_eq_true rfl) (p_Ar_amount (d + 3) a1 (1 : Int32) h13) fun x14 h14 => ?_
            refine gk_callS (pc := 141) (d := (d + 9)) (w' := gv_R) (as := [.double x13, .double x14]) (n := 2) d_Am_answer_141 rfl rfl (Nat.le_of_ble_eq_true rfl) tw_1240 tw_1241 tw_117 cw_Am_modulo hy_Am_modulo (Nat.le_of_ble_eq_true rfl) (p_Am_modulo (d + 6) x13 x14 h14) fun x15 h15 => ?_
            exact gk_aret (pc := 144) rfl d_Am_answer_144 rfl (Or.inl ⟨_, rfl⟩)
          ·
            refine gk_ite (fun z1_5 => ?_) (fun z1_5 => ?_)
            · refine gk_tsw_in (pc := 1) (24 : Int32) 145 d_Am_answer_1 z1_5 (by decide) (by decide) rfl rfl ?_
              refine gk_aload_n (pc := 145) 1 d_Am_answer_145 rfl ?_
              refine gk_iconst (pc := 146) (0 : Int32) d_Am_answer_146 rfl ?_
              refine gk_callV (pc := 147) (d := (d + 9)) (w' := gv_D) (as := [.int (0 : Int32)]) (n := 1) 4 d_Am_answer_147 rfl rfl rfl rfl (Nat.le_of_ble_eq_true rfl) tw_1232 tw_788 tw_789 tw_96 cw_Ar_amount hy_Ar_amount (Nat.le_of_ble_eq_true rfl) (p_Ar_amount (d + 3) a1 (0 : Int32) h) fun x16 h16 => ?_
              refine gk_aload_n (pc := 150) 1 d_Am_answer_150 rfl ?_
              refine gk_iconst (pc := 151) (1 : Int32) d_Am_answer_151 rfl ?_
              refine gk_callV (pc := 152) (d := (d + 9)) (w' := gv_D) (as := [.int (1 : Int32)]) (n := 1) 4 d_Am_answer_152 rfl rfl rfl rfl (Nat.le_of_ble_eq_true rfl) tw_1232 tw_788 tw_789 tw_96 cw_Ar_amount hy_Ar_amount (Nat.le_of_ble_eq_true rfl) (p_Ar_amount (d + 3) a1 (1 : Int32) h16) fun x17 h17 => ?_
              refine gk_callS (pc := 155) (d := (d + 9)) (w' := gv_R) (as := [.double x16, .double x17]) (n := 2) d_Am_answer_155 rfl rfl (Nat.le_of_ble_eq_true rfl) tw_1243 tw_1244 tw_117 cw_Am_quotient hy_Am_quotient (Nat.le_of_ble_eq_true rfl) (p_Am_quotient (d + 6) x16 x17 h17) fun x18 h18 => ?_
              exact gk_aret (pc := 158) rfl d_Am_answer_158 rfl (Or.inl ⟨_, rfl⟩)
            ·
              refine gk_ite (fun z1_6 => ?_) (fun z1_6 => ?_)
              · refine gk_tsw_in (pc := 1) (25 : Int32) 159 d_Am_answer_1 z1_6 (by decide) (by decide) rfl rfl ?_
                exact p_Am_answer_b159 d a0 a1 h
              ·
                refine gk_ite (fun z1_7 => ?_) (fun z1_7 => ?_)
                · refine gk_tsw_in (pc := 1) (26 : Int32) 159 d_Am_answer_1 z1_7 (by decide) (by decide) rfl rfl ?_
                  exact p_Am_answer_b159 d a0 a1 h
                ·
                  refine gk_ite (fun z1_8 => ?_) (fun z1_8 => ?_)
                  · refine gk_tsw_in (pc := 1) (27 : Int32) 165 d_Am_answer_1 z1_8 (by decide) (by decide) rfl rfl ?_
                    refine gk_aload_n (pc := 165) 1 d_Am_answer_165 rfl ?_
                    refine gk_iconst (pc := 166) (0 : Int32) d_Am_answer_166 rfl ?_
                    refine gk_callV (pc := 167) (d := (d + 9)) (w' := gv_J) (as := [.int (0 : Int32)]) (n := 1) 4 d_Am_answer_167 rfl rfl rfl rfl (Nat.le_of_ble_eq_true rfl) tw_1250 tw_1065 tw_1066 tw_96 cw_Ar_whole hy_Ar_whole (Nat.le_of_ble_eq_true rfl) (p_Ar_whole (d + 2) a1 (0 : Int32) h) fun x19 h19 => ?_
                    refine gk_callS (pc := 170) (d := (d + 9)) (w' := gv_R) (as := [.long x19]) (n := 1) d_Am_answer_170 rfl rfl (Nat.le_of_ble_eq_true rfl) tw_1258 tw_1259 tw_117 cw_Am_factorial hy_Am_factorial (Nat.le_of_ble_eq_true rfl) (p_Am_factorial (d + 6) x19 h19) fun x20 h20 => ?_
                    exact gk_aret (pc := 173) rfl d_Am_answer_173 rfl (Or.inl ⟨_, rfl⟩)
                  ·
                    refine gk_ite (fun z1_9 => ?_) (fun z1_9 => ?_)
                    · refine gk_tsw_in (pc := 1) (28 : Int32) 174 d_Am_answer_1 z1_9 (by decide) (by decide) rfl rfl ?_
                      refine gk_aload_n (pc := 174) 1 d_Am_answer_174 rfl ?_
                      refine gk_iconst (pc := 175) (0 : Int32) d_Am_answer_175 rfl ?_
                      refine gk_callV (pc := 176) (d := (d + 9)) (w' := gv_J) (as := [.int (0 : Int32)]) (n := 1) 4 d_Am_answer_176 rfl rfl rfl rfl (Nat.le_of_ble_eq_true rfl) tw_1250 tw_1065 tw_1066 tw_96 cw_Ar_whole hy_Ar_whole (Nat.le_of_ble_eq_true rfl) (p_Ar_whole (d + 2) a1 (0 : Int32) h) fun x21 h21 => ?_
                      refine gk_aload_n (pc := 179) 1 d_Am_answer_179 rfl ?_
                      refine gk_iconst (pc := 180) (1 : Int32) d_Am_answer_180 rfl ?_
                      refine gk_callV (pc := 181) (d := (d + 9)) (w' := gv_J) (as := [.int (1 : Int32)]) (n := 1) 4 d_Am_answer_181 rfl rfl rfl rfl (Nat.le_of_ble_eq_true rfl) tw_1250 tw_1065 tw_1066 tw_96 cw_Ar_whole hy_Ar_whole (Nat.le_of_ble_eq_true rfl) (p_Ar_whole (d + 2) a1 (1 : Int32) h21) fun x22 h22 => ?_
                      refine gk_callS (pc := 184) (d := (d + 9)) (w' := gv_R) (as := [.long x21, .long x22]) (n := 2) d_Am_answer_184 rfl rfl (Nat.le_of_ble_eq_true rfl) tw_1262 tw_1263 tw_117 cw_Am_combinations hy_Am_combinations (Nat.le_of_ble_eq_true rfl) (p_Am_combinations (d + 6) x21 x22 h22) fun x23 h23 => ?_
                      exact gk_aret (pc := 187) rfl d_Am_answer_187 rfl (Or.inl ⟨_, rfl⟩)
                    ·
                      refine gk_ite (fun z1_10 => ?_) (fun z1_10 => ?_)
                      · refine gk_tsw_in (pc := 1) (29 : Int32) 188 d_Am_answer_1 z1_10 (by decide) (by decide) rfl rfl ?_
                        refine gk_aload_n (pc := 188) 1 d_Am_answer_188 rfl ?_
                        refine gk_iconst (pc := 189) (0 : Int32) d_Am_answer_189 rfl ?_
                        refine gk_callV (pc := 190) (d := (d + 9)) (w' := gv_D) (as := [.int (0 : Int32)]) (n := 1) 4 d_Am_answer_190 rfl rfl rfl rfl (Nat.le_of_ble_eq_true rfl) tw_1232 tw_788 tw_789 tw_96 cw_Ar_amount hy_Ar_amount (Nat.le_of_ble_eq_true rfl) (p_Ar_amount (d + 3) a1 (0 : Int32) h) fun x24 h24 => ?_
                        refine gk_callS (pc := 193) (d := (d + 9)) (w' := gv_R) (as := [.double x24]) (n := 1) d_Am_answer_193 rfl rfl (Nat.le_of_ble_eq_true rfl) tw_1266 tw_1267 tw_117 cw_Am_even hy_Am_even (Nat.le_of_ble_eq_true rfl) (p_Am_even (d + 6) x24 h24) fun x25 h25 => ?_
                        exact gk_aret (pc := 196) rfl d_Am_answer_196 rfl (Or.inl ⟨_, rfl⟩)
                      ·
                        refine gk_ite (fun z1_11 => ?_) (fun z1_11 => ?_)
                        · refine gk_tsw_in (pc := 1) (30 : Int32) 197 d_Am_answer_1 z1_11 (by decide) (by decide) rfl rfl ?_
                          refine gk_aload_n (pc := 197) 1 d_Am_answer_197 rfl ?_
                          refine gk_iconst (pc := 198) (0 : Int32) d_Am_answer_198 rfl ?_
                          refine gk_callV (pc := 199) (d := (d + 9)) (w' := gv_D) (as := [.int (0 : Int32)]) (n := 1) 4 d_Am_answer_199 rfl rfl rfl rfl (Nat.le_of_ble_eq_true rfl) tw_1232 tw_788 tw_789 tw_96 cw_Ar_amount hy_Ar_amount (Nat.le_of_ble_eq_true rfl) (p_Ar_amount (d + 3) a1 (0 : Int32) h) fun x26 h26 => ?_
                          refine gk_callS (pc := 202) (d := (d + 9)) (w' := gv_R) (as := [.double x26]) (n := 1) d_Am_answer_202 rfl rfl (Nat.le_of_ble_eq_true rfl) tw_1273 tw_1274 tw_117 cw_Am_odd hy_Am_odd (Nat.le_of_ble_eq_true rfl) (p_Am_odd (d + 6) x26 h26) fun x27 h27 => ?_
                          exact gk_aret (pc := 205) rfl d_Am_answer_205 rfl (Or.inl ⟨_, rfl⟩)
                        ·
                          refine gk_ite (fun z1_12 => ?_) (fun z1_12 => ?_)
                          · refine gk_tsw_in (pc := 1) (31 : Int32) 206 d_Am_answer_1 z1_12 (by decide) (by decide) rfl rfl ?_
                            refine gk_aload_n (pc := 206) 1 d_Am_answer_206 rfl ?_
                            refine gk_iconst (pc := 207) (0 : Int32) d_Am_answer_207 rfl ?_
                            refine gk_callV (pc := 208) (d := (d + 9)) (w' := gv_D) (as := [.int (0 : Int32)]) (n := 1) 4 d_Am_answer_208 rfl rfl rfl rfl (Nat.le_of_ble_eq_true rfl) tw_1232 tw_788 tw_789 tw_96 cw_Ar_amount hy_Ar_amount (Nat.le_of_ble_eq_true rfl) (p_Ar_amount (d + 3) a1 (0 : Int32) h) fun x28 h28 => ?_
                            refine gk_aload_n (pc := 211) 1 d_Am_answer_211 rfl ?_
                            refine gk_iconst (pc := 212) (1 : Int32) d_Am_answer_212 rfl ?_
                            refine gk_callV (pc := 213) (d := (d + 9)) (w' := gv_D) (as := [.int (1 : Int32)]) (n := 1) 4 d_Am_answer_213 rfl rfl rfl rfl (Nat.le_of_ble_eq_true rfl) tw_1232 tw_788 tw_789 tw_96 cw_Ar_amount hy_Ar_amount (Nat.le_of_ble_eq_true rfl) (p_Ar_amount (d + 3) a1 (1 : Int32) h28) fun x29 h29 => ?_
                            refine gk_callS (pc := 216) (d := (d + 9)) (w' := gv_R) (as := [.double x28, .double x29]) (n := 2) d_Am_answer_216 rfl rfl (Nat.le_of_ble_eq_true rfl) tw_1276 tw_1277 tw_117 cw_Am_ceilingTo hy_Am_ceilingTo (Nat.le_of_ble_eq_true rfl) (p_Am_ceilingTo (d + 5) x28 x29 h29) fun x30 h30 => ?_
                            exact gk_aret (pc := 219) rfl d_Am_answer_219 rfl (Or.inl ⟨_, rfl⟩)
                          ·
                            refine gk_ite (fun z1_13 => ?_) (fun z1_13 => ?_)
                            · refine gk_tsw_in (pc := 1) (32 : Int32) 220 d_Am_answer_1 z1_13 (by decide) (by decide) rfl rfl ?_
                              refine gk_aload_n (pc := 220) 1 d_Am_answer_220 rfl ?_
                              refine gk_iconst (pc := 221) (0 : Int32) d_Am_answer_221 rfl ?_
                              refine gk_callV (pc := 222) (d := (d + 9)) (w' := gv_D) (as := [.int (0 : Int32)]) (n := 1) 4 d_Am_answer_222 rfl rfl rfl rfl (Nat.le_of_ble_eq_true rfl) tw_1232 tw_788 tw_789 tw_96 cw_Ar_amount hy_Ar_amount (Nat.le_of_ble_eq_true rfl) (p_Ar_amount (d + 3) a1 (0 : Int32) h) fun x31 h31 => ?_
                              refine gk_aload_n (pc := 225) 1 d_Am_answer_225 rfl ?_
                              refine gk_iconst (pc := 226) (1 : Int32) d_Am_answer_226 rfl ?_
                              refine gk_callV (pc := 227) (d := (d + 9)) (w' := gv_D) (as := [.int (1 : Int32)]) (n := 1) 4 d_Am_answer_227 rfl rfl rfl rfl (Nat.le_of_ble_eq_true rfl) tw_1232 tw_788 tw_789 tw_96 cw_Ar_amount hy_Ar_amount (Nat.le_of_ble_eq_true rfl) (p_Ar_amount (d + 3) a1 (1 : Int32) h31) fun x32 h32 => ?_
                              refine gk_callS (pc := 230) (d := (d + 9)) (w' := gv_R) (as := [.double x31, .double x32]) (n := 2) d_Am_answer_230 rfl rfl (Nat.le_of_ble_eq_true rfl) tw_1282 tw_1283 tw_117 cw_Am_floorTo hy_Am_floorTo (Nat.le_of_ble_eq_true rfl) (p_Am_floorTo (d + 5) x31 x32 h32) fun x33 h33 => ?_
                              exact gk_aret (pc := 233) rfl d_Am_answer_233 rfl (Or.inl ⟨_, rfl⟩)
                            ·
                              refine gk_ite (fun z1_14 => ?_) (fun z1_14 => ?_)
                              · refine gk_tsw_in (pc := 1) (33 : Int32) 234 d_Am_answer_1 z1_14 (by decide) (by decide) rfl rfl ?_
                                refine gk_aload_n (pc := 234) 1 d_Am_answer_234 rfl ?_
                                refine gk_iconst (pc := 235) (0 : Int32) d_Am_answer_235 rfl ?_
                                refine gk_callV (pc := 236) (d := (d + 9)) (w' := gv_D) (as := [.int (0 : Int32)]) (n := 1) 4 d_Am_answer_236 rfl rfl rfl rfl (Nat.le_of_ble_eq_true rfl) tw_1232 tw_788 tw_789 tw_96 cw_Ar_amount hy_Ar_amount (Nat.le_of_ble_eq_true rfl) (p_Ar_amount (d + 3) a1 (0 : Int32) h) fun x34 h34 => ?_
                                refine gk_aload_n (pc := 239) 1 d_Am_answer_239 rfl ?_
                                refine gk_iconst (pc := 240) (1 : Int32) d_Am_answer_240 rfl ?_
                                refine gk_lconst (pc := 241) (0 : Int64) d_Am_answer_241 rfl ?_
                                refine gk_callV (pc := 242) (d := (d + 9)) (w' := gv_J) (as := [.int (1 : Int32), .long (0 : Int64)]) (n := 2) 4 d_Am_answer_242 rfl rfl rfl rfl (Nat.le_of_ble_eq_true rfl) tw_1285 tw_1286 tw_1287 tw_96 cw_Ar_wholeOr hy_Ar_wholeOr (Nat.le_of_ble_eq_true rfl) (p_Ar_wholeOr (d + 1) a1 (1 : Int32) (0 : Int64) h34) fun x35 h35 => ?_
                                refine gk_dconst0 (pc := 245) d_Am_answer_245 ?_
                                refine gk_callS (pc := 246) (d := (d + 9)) (w' := gv_R) (as := [.double x34, .long x35, .double (0x0000000000000000)]) (n := 3) d_Am_answer_246 rfl rfl (Nat.le_of_ble_eq_true rfl) tw_1290 tw_1291 tw_117 cw_Am_toPlaces hy_Am_toPlaces (Nat.le_of_ble_eq_true rfl) (p_Am_toPlaces (d + 6) x34 x35 (0x0000000000000000) h35) fun x36 h36 => ?_
                                exact gk_aret (pc := 249) rfl d_Am_answer_249 rfl (Or.inl ⟨_, rfl⟩)
                              ·
                                refine gk_ite (fun z1_15 => ?_) (fun z1_15 => ?_)
                                · refine gk_tsw_in (pc := 1) (34 : Int32) 250 d_Am_answer_1 z1_15 (by decide) (by decide) rfl rfl ?_
                                  refine gk_aload_n (pc := 250) 1 d_Am_answer_250 rfl ?_
                                  refine gk_iconst (pc := 251) (0 : Int32) d_Am_answer_251 rfl ?_
                                  refine gk_callV (pc := 252) (d := (d + 9)) (w' := gv_D) (as := [.int (0 : Int32)]) (n := 1) 4 d_Am_answer_252 rfl rfl rfl rfl (Nat.le_of_ble_eq_true rfl) tw_1232 tw_788 tw_789 tw_96 cw_Ar_amount hy_Ar_amount (Nat.le_of_ble_eq_true rfl) (p_Ar_amount (d + 3) a1 (0 : Int32) h) fun x37 h37 => ?_
                                  refine gk_aload_n (pc := 255) 1 d_Am_answer_255 rfl ?_
                                  refine gk_iconst (pc := 256) (1 : Int32) d_Am_answer_256 rfl ?_
                                  refine gk_lconst (pc := 257) (0 : Int64) d_Am_answer_257 rfl ?_
                                  refine gk_callV (pc := 258) (d := (d + 9)) (w' := gv_J) (as := [.int (1 : Int32), .long (0 : Int64)]) (n := 2) 4 d_Am_answer_258 rfl rfl rfl rfl (Nat.le_of_ble_eq_true rfl) tw_1285 tw_1286 tw_1287 tw_96 cw_Ar_wholeOr hy_Ar_wholeOr (Nat.le_of_ble_eq_true rfl) (p_Ar_wholeOr (d + 1) a1 (1 : Int32) (0 : Int64) h37) fun x38 h38 => ?_
                                  refine gk_ldc2d (pc := 261) tw_1296 d_Am_answer_261 ?_
                                  refine gk_callS (pc := 264) (d := (d + 9)) (w' := gv_R) (as := [.double x37, .long x38, .double (0x3fe0000000000000)]) (n := 3) d_Am_answer_264 rfl rfl (Nat.le_of_ble_eq_true rfl) tw_1290 tw_1291 tw_117 cw_Am_toPlaces hy_Am_toPlaces (Nat.le_of_ble_eq_true rfl) (p_Am_toPlaces (d + 6) x37 x38 (0x3fe0000000000000) h38) fun x39 h39 => ?_
                                  exact gk_aret (pc := 267) rfl d_Am_answer_267 rfl (Or.inl ⟨_, rfl⟩)
                                ·
                                  refine gk_tsw_out (pc := 1) 268 d_Am_answer_1 (by have e0 := gk_neT z1_0 (by decide : (19 : Int32).toInt = 19); have e1 := gk_neT z1_1 (by decide : (20 : Int32).toInt = 20); have e2 := gk_neT z1_2 (by decide : (21 : Int32).toInt = 21); have e3 := gk_neT z1_3 (by decide : (22 : Int32).toInt = 22); have e4 := gk_neT z1_4 (by decide : (23 : Int32).toInt = 23); have e5 := gk_neT z1_5 (by decide : (24 : Int32).toInt = 24); have e6 := gk_neT z1_6 (by decide : (25 : Int32).toInt = 25); have e7 := gk_neT z1_7 (by decide : (26 : Int32).toInt = 26); have e8 := gk_neT z1_8 (by decide : (27 : Int32).toInt = 27); have e9 := gk_neT z1_9 (by decide : (28 : Int32).toInt = 28); have e10 := gk_neT z1_10 (by decide : (29 : Int32).toInt = 29); have e11 := gk_neT z1_11 (by decide : (30 : Int32).toInt = 30); have e12 := gk_neT z1_12 (by decide : (31 : Int32).toInt = 31); have e13 := gk_neT z1_13 (by decide : (32 : Int32).toInt = 32); have e14 := gk_neT z1_14 (by decide : (33 : Int32).toInt = 33); have e15 := gk_neT z1_15 (by decide : (34 : Int32).toInt = 34); omega) rfl ?_
                                  refine gk_iconst (pc := 268) (3 : Int32) d_Am_answer_268 rfl ?_
                                  refine gk_callS (pc := 269) (d := (d + 9)) (w' := gv_R) (as := [.int (3 : Int32)]) (n := 1) d_Am_answer_269 rfl rfl (Nat.le_of_ble_eq_true rfl) tw_996 tw_236 tw_97 cw_Va_ofError hy_Va_ofError (Nat.le_of_ble_eq_true rfl) (p_Va_ofError (d + 7) (3 : Int32) h) fun x40 h40 => ?_
                                  exact gk_aret (pc := 272) rfl d_Am_answer_272 rfl (Or.inl ⟨_, rfl⟩)
theorem p_Am_answer (d : Nat) (a0 : Int32) (a1 : Option Nat) (h : gk_H) : ∀ r h1, f_Am_answer a0 a1 h = some (r, h1) → gk_M (d + 10) y_Am_answer b_Am_answer 2 (some (.object "ValueAlgebra$Value")) [.int a0, va_rf a1] h (.inl (gv_R r)) h1 :=
  fun r h1 e => gk_M_of2 (by decide +kernel) (by simp [lv_args, gk_cat_rf, gk_catI, gk_catJ, gk_catD, gv_V, gv_I, gv_J, gv_D, gv_R]) (by simp [lg_sl, gk_cat_rf, gk_catI, gk_catJ, gk_catD, gv_V, gv_I, gv_J, gv_D, gv_R]) (w_Am_answer d a0 a1 h r h1 e)
theorem d_Ch_errorNumber_0 : decode b_Ch_errorNumber 0 = .ok (.aload_n 0, 1) := by decide +kernel
theorem d_Ch_errorNumber_1 : decode b_Ch_errorNumber 1 = .ok (.getfield 79, 3) := by decide +kernel
theorem d_Ch_errorNumber_4 : decode b_Ch_errorNumber 4 = .ok (.iconst 4, 1) := by decide +kernel
theorem d_Ch_errorNumber_5 : decode b_Ch_errorNumber 5 = .ok (.if_icmp .ne 14, 3) := by decide +kernel
theorem d_Ch_errorNumber_8 : decode b_Ch_errorNumber 8 = .ok (.aload_n 0, 1) := by decide +kernel
theorem d_Ch_errorNumber_9 : decode b_Ch_errorNumber 9 = .ok (.getfield 83, 3) := by decide +kernel
theorem d_Ch_errorNumber_12 : decode b_Ch_errorNumber 12 = .ok (.i2d, 1) := by decide +kernel
theorem d_Ch_errorNumber_13 : decode b_Ch_errorNumber 13 = .ok (.invokestatic 62, 3) := by decide +kernel
theorem d_Ch_errorNumber_16 : decode b_Ch_errorNumber 16 = .ok (.goto 8, 3) := by decide +kernel
theorem d_Ch_errorNumber_19 : decode b_Ch_errorNumber 19 = .ok (.bipush 7, 2) := by decide +kernel
theorem d_Ch_errorNumber_21 : decode b_Ch_errorNumber 21 = .ok (.invokestatic 40, 3) := by decide +kernel
theorem d_Ch_errorNumber_24 : decode b_Ch_errorNumber 24 = .ok (.areturn, 1) := by decide +kernel
theorem p_Ch_errorNumber_b24 (d : Nat)  (s0 : Option Nat) (h : gk_H) : gk_P gw_R (d + 3) y_Ch_errorNumber b_Ch_errorNumber 1 (some (.object "ValueAlgebra$Value")) [] (f_Ch_errorNumber_b24  s0 h) 24 [] [va_rf s0] h := by
  unfold f_Ch_errorNumber_b24
  exact gk_aret (pc := 24) rfl d_Ch_errorNumber_24 rfl (Or.inl ⟨_, rfl⟩)
theorem w_Ch_errorNumber (d : Nat) (a0 : Option Nat) (h : gk_H) : gk_P gw_R (d + 3) y_Ch_errorNumber b_Ch_errorNumber 1 (some (.object "ValueAlgebra$Value")) [] (f_Ch_errorNumber a0 h) 0 [(0, va_rf a0)] [] h := by
  unfold f_Ch_errorNumber
  refine gk_aload_n (pc := 0) 0 d_Ch_errorNumber_0 rfl ?_
  refine gk_getI (pc := 1) 2 0 d_Ch_errorNumber_1 rfl (Nat.le_of_ble_eq_true rfl) tw_187 fun x1 => ?_
  refine gk_iconst (pc := 4) (4 : Int32) d_Ch_errorNumber_4 rfl ?_
  refine gk_icmp_ne (pc := 5) 19 d_Ch_errorNumber_5 rfl (fun _ => ?_) (fun _ => ?_)
  · refine gk_aload_n (pc := 8) 0 d_Ch_errorNumber_8 rfl ?_
    refine gk_getI (pc := 9) 2 1 d_Ch_errorNumber_9 rfl (Nat.le_of_ble_eq_true rfl) tw_194 fun x2 => ?_
    refine gk_i2d (pc := 12) d_Ch_errorNumber_12 ?_
    refine gk_callS (pc := 13) (d := (d + 2)) (w' := gv_R) (as := [.double (FP.i2d x2)]) (n := 1) d_Ch_errorNumber_13 rfl rfl (Nat.le_of_ble_eq_true rfl) tw_1332 tw_317 tw_97 cw_Va_ofNumber hy_Va_ofNumber (Nat.le_of_ble_eq_true rfl) (p_Va_ofNumber d (FP.i2d x2) h) fun x3 h1 => ?_
    refine gk_goto (pc := 16) 24 d_Ch_errorNumber_16 rfl ?_
    refine gk_weak [] (L' := []) rfl ?_
    exact p_Ch_errorNumber_b24 d x3 h1
  · refine gk_bipush (pc := 19) (7 : Int32) d_Ch_errorNumber_19 rfl ?_
    refine gk_callS (pc := 21) (d := (d + 2)) (w' := gv_R) (as := [.int (7 : Int32)]) (n := 1) d_Ch_errorNumber_21 rfl rfl (Nat.le_of_ble_eq_true rfl) tw_1318 tw_236 tw_97 cw_Va_ofError hy_Va_ofError (Nat.le_of_ble_eq_true rfl) (p_Va_ofError d (7 : Int32) h) fun x4 h2 => ?_
    refine gk_weak [] (L' := []) rfl ?_
    exact p_Ch_errorNumber_b24 d x4 h2
theorem p_Ch_errorNumber (d : Nat) (a0 : Option Nat) (h : gk_H) : ∀ r h1, f_Ch_errorNumber a0 h = some (r, h1) → gk_M (d + 3) y_Ch_errorNumber b_Ch_errorNumber 1 (some (.object "ValueAlgebra$Value")) [va_rf a0] h (.inl (gv_R r)) h1 :=
  fun r h1 e => gk_M_of2 (by decide +kernel) (by simp [lv_args, gk_cat_rf, gk_catI, gk_catJ, gk_catD, gv_V, gv_I, gv_J, gv_D, gv_R]) (by simp [lg_sl, gk_cat_rf, gk_catI, gk_catJ, gk_catD, gv_V, gv_I, gv_J, gv_D, gv_R]) (w_Ch_errorNumber d a0 h r h1 e)
theorem d_Ch_typeOf_0 : decode b_Ch_typeOf 0 = .ok (.aload_n 0, 1) := by decide +kernel
theorem d_Ch_typeOf_1 : decode b_Ch_typeOf 1 = .ok (.getfield 79, 3) := by decide +kernel
theorem d_Ch_typeOf_4 : decode b_Ch_typeOf 4 = .ok (.tableswitch 42 2 5 #[32, 34, 36, 39], 32) := by decide +kernel
theorem d_Ch_typeOf_36 : decode b_Ch_typeOf 36 = .ok (.iconst 2, 1) := by decide +kernel
theorem d_Ch_typeOf_37 : decode b_Ch_typeOf 37 = .ok (.ireturn, 1) := by decide +kernel
theorem d_Ch_typeOf_38 : decode b_Ch_typeOf 38 = .ok (.iconst 4, 1) := by decide +kernel
theorem d_Ch_typeOf_39 : decode b_Ch_typeOf 39 = .ok (.ireturn, 1) := by decide +kernel
theorem d_Ch_typeOf_40 : decode b_Ch_typeOf 40 = .ok (.bipush 16, 2) := by decide +kernel
theorem d_Ch_typeOf_42 : decode b_Ch_typeOf 42 = .ok (.ireturn, 1) := by decide +kernel
theorem d_Ch_typeOf_43 : decode b_Ch_typeOf 43 = .ok (.bipush 64, 2) := by decide +kernel
theorem d_Ch_typeOf_45 : decode b_Ch_typeOf 45 = .ok (.ireturn, 1) := by decide +kernel
theorem d_Ch_typeOf_46 : decode b_Ch_typeOf 46 = .ok (.iconst 1, 1) := by decide +kernel
theorem d_Ch_typeOf_47 : decode b_Ch_typeOf 47 = .ok (.ireturn, 1) := by decide +kernel
theorem w_Ch_typeOf (d : Nat) (a0 : Option Nat) (h : gk_H) : gk_P gw_I d y_Ch_typeOf b_Ch_typeOf 1 (some .int) [] (f_Ch_typeOf a0 h) 0 [(0, va_rf a0)] [] h := by
  unfold f_Ch_typeOf
  refine gk_aload_n (pc := 0) 0 d_Ch_typeOf_0 rfl ?_
  refine gk_getI (pc := 1) 2 0 d_Ch_typeOf_1 rfl (Nat.le_of_ble_eq_true rfl) tw_187 fun x1 => ?_
  refine gk_ite (fun z4_0 => ?_) (fun z4_0 => ?_)
  · refine gk_tsw_in (pc := 4) (2 : Int32) 36 d_Ch_typeOf_4 z4_0 (by decide) (by decide) rfl rfl ?_
    refine gk_iconst (pc := 36) (2 : Int32) d_Ch_typeOf_36 rfl ?_
    exact gk_iret (pc := 37) rfl d_Ch_typeOf_37 rfl
  ·
    refine gk_ite (fun z4_1 => ?_) (fun z4_1 => ?_)
    · refine gk_tsw_in (pc := 4) (3 : Int32) 38 d_Ch_typeOf_4 z4_1 (by decide) (by decide) rfl rfl ?_
      refine gk_iconst (pc := 38) (4 : Int32) d_Ch_typeOf_38 rfl ?_
      exact gk_iret (pc := 39) rfl d_Ch_typeOf_39 rfl
    ·
      refine gk_ite (fun z4_2 => ?_) (fun z4_2 => ?_)
      · refine gk_tsw_in (pc := 4) (4 : Int32) 40 d_Ch_typeOf_4 z4_2 (by decide) (by decide) rfl rfl ?_
        refine gk_bipush (pc := 40) (16 : Int32) d_Ch_typeOf_40 rfl ?_
        exact gk_iret (pc := 42) rfl d_Ch_typeOf_42 rfl
      ·
        refine gk_ite (fun z4_3 => ?_) (fun z4_3 => ?_)
        · refine gk_tsw_in (pc := 4) (5 : Int32) 43 d_Ch_typeOf_4 z4_3 (by decide) (by decide) rfl rfl ?_
          refine gk_bipush (pc := 43) (64 : Int32) d_Ch_typeOf_43 rfl ?_
          exact gk_iret (pc := 45) rfl d_Ch_typeOf_45 rfl
        ·
          refine gk_tsw_out (pc := 4) 46 d_Ch_typeOf_4 (by have e0 := gk_neT z4_0 (by decide : (2 : Int32).toInt = 2); have e1 := gk_neT z4_1 (by decide : (3 : Int32).toInt = 3); have e2 := gk_neT z4_2 (by decide : (4 : Int32).toInt = 4); have e3 := gk_neT z4_3 (by decide : (5 : Int32).toInt = 5); omega) rfl ?_
          refine gk_iconst (pc := 46) (1 : Int32) d_Ch_typeOf_46 rfl ?_
          exact gk_iret (pc := 47) rfl d_Ch_typeOf_47 rfl
theorem p_Ch_typeOf (d : Nat) (a0 : Option Nat) (h : gk_H) : ∀ r h1, f_Ch_typeOf a0 h = some (r, h1) → gk_M d y_Ch_typeOf b_Ch_typeOf 1 (some .int) [va_rf a0] h (.inl (gv_I r)) h1 :=
  fun r h1 e => gk_M_of2 (by decide +kernel) (by simp [lv_args, gk_cat_rf, gk_catI, gk_catJ, gk_catD, gv_V, gv_I, gv_J, gv_D, gv_R]) (by simp [lg_sl, gk_cat_rf, gk_catI, gk_catJ, gk_catD, gv_V, gv_I, gv_J, gv_D, gv_R]) (w_Ch_typeOf d a0 h r h1 e)
theorem d_Ch_asNumber_0 : decode b_Ch_asNumber 0 = .ok (.aload_n 0, 1) := by decide +kernel
theorem d_Ch_asNumber_1 : decode b_Ch_asNumber 1 = .ok (.getfield 79, 3) := by decide +kernel
theorem d_Ch_asNumber_4 : decode b_Ch_asNumber 4 = .ok (.iconst 3, 1) := by decide +kernel
theorem d_Ch_asNumber_5 : decode b_Ch_asNumber 5 = .ok (.if_icmp .ne 11, 3) := by decide +kernel
theorem d_Ch_asNumber_8 : decode b_Ch_asNumber 8 = .ok (.aload_n 0, 1) := by decide +kernel
theorem d_Ch_asNumber_9 : decode b_Ch_asNumber 9 = .ok (.getfield 83, 3) := by decide +kernel
theorem d_Ch_asNumber_12 : decode b_Ch_asNumber 12 = .ok (.i2d, 1) := by decide +kernel
theorem d_Ch_asNumber_13 : decode b_Ch_asNumber 13 = .ok (.goto 7, 3) := by decide +kernel
theorem d_Ch_asNumber_16 : decode b_Ch_asNumber 16 = .ok (.aload_n 0, 1) := by decide +kernel
theorem d_Ch_asNumber_17 : decode b_Ch_asNumber 17 = .ok (.getfield 104, 3) := by decide +kernel
theorem d_Ch_asNumber_20 : decode b_Ch_asNumber 20 = .ok (.invokestatic 62, 3) := by decide +kernel
theorem d_Ch_asNumber_23 : decode b_Ch_asNumber 23 = .ok (.areturn, 1) := by decide +kernel
theorem p_Ch_asNumber_b20 (d : Nat)  (s0 : UInt64) (h : gk_H) : gk_P gw_R (d + 3) y_Ch_asNumber b_Ch_asNumber 1 (some (.object "ValueAlgebra$Value")) [] (f_Ch_asNumber_b20  s0 h) 20 [] [.double s0] h := by
  unfold f_Ch_asNumber_b20
  refine gk_callS (pc := 20) (d := (d + 2)) (w' := gv_R) (as := [.double s0]) (n := 1) d_Ch_asNumber_20 rfl rfl (Nat.le_of_ble_eq_true rfl) tw_1332 tw_317 tw_97 cw_Va_ofNumber hy_Va_ofNumber (Nat.le_of_ble_eq_true rfl) (p_Va_ofNumber d s0 h) fun x1 h1 => ?_
  exact gk_aret (pc := 23) rfl d_Ch_asNumber_23 rfl (Or.inl ⟨_, rfl⟩)
theorem w_Ch_asNumber (d : Nat) (a0 : Option Nat) (h : gk_H) : gk_P gw_R (d + 3) y_Ch_asNumber b_Ch_asNumber 1 (some (.object "ValueAlgebra$Value")) [] (f_Ch_asNumber a0 h) 0 [(0, va_rf a0)] [] h := by
  unfold f_Ch_asNumber
  refine gk_aload_n (pc := 0) 0 d_Ch_asNumber_0 rfl ?_
  refine gk_getI (pc := 1) 2 0 d_Ch_asNumber_1 rfl (Nat.le_of_ble_eq_true rfl) tw_187 fun x1 => ?_
  refine gk_iconst (pc := 4) (3 : Int32) d_Ch_asNumber_4 rfl ?_
  refine gk_icmp_ne (pc := 5) 16 d_Ch_asNumber_5 rfl (fun _ => ?_) (fun _ => ?_)
  · refine gk_aload_n (pc := 8) 0 d_Ch_asNumber_8 rfl ?_
    refine gk_getI (pc := 9) 2 1 d_Ch_asNumber_9 rfl (Nat.le_of_ble_eq_true rfl) tw_194 fun x2 => ?_
    refine gk_i2d (pc := 12) d_Ch_asNumber_12 ?_
    refine gk_goto (pc := 13) 20 d_Ch_asNumber_13 rfl ?_
    refine gk_weak [] (L' := []) rfl ?_
    exact p_Ch_asNumber_b20 d (FP.i2d x2) h
  · refine gk_aload_n (pc := 16) 0 d_Ch_asNumber_16 rfl ?_
    refine gk_getD (pc := 17) 2 2 d_Ch_asNumber_17 rfl (Nat.le_of_ble_eq_true rfl) tw_200 fun x3 => ?_
    refine gk_weak [] (L' := []) rfl ?_
    exact p_Ch_asNumber_b20 d x3 h
theorem p_Ch_asNumber (d : Nat) (a0 : Option Nat) (h : gk_H) : ∀ r h1, f_Ch_asNumber a0 h = some (r, h1) → gk_M (d + 3) y_Ch_asNumber b_Ch_asNumber 1 (some (.object "ValueAlgebra$Value")) [va_rf a0] h (.inl (gv_R r)) h1 :=
  fun r h1 e => gk_M_of2 (by decide +kernel) (by simp [lv_args, gk_cat_rf, gk_catI, gk_catJ, gk_catD, gv_V, gv_I, gv_J, gv_D, gv_R]) (by simp [lg_sl, gk_cat_rf, gk_catI, gk_catJ, gk_catD, gv_V, gv_I, gv_J, gv_D, gv_R]) (w_Ch_asNumber d a0 h r h1 e)
theorem d_Ar_truth_0 : decode b_Ar_truth 0 = .ok (.aload_n 0, 1) := by decide +kernel
theorem d_Ar_truth_1 : decode b_Ar_truth 1 = .ok (.iload_n 1, 1) := by decide +kernel
theorem d_Ar_truth_2 : decode b_Ar_truth 2 = .ok (.invokevirtual 76, 3) := by decide +kernel
theorem d_Ar_truth_5 : decode b_Ar_truth 5 = .ok (.astore_n 2, 1) := by decide +kernel
theorem d_Ar_truth_6 : decode b_Ar_truth 6 = .ok (.aload_n 2, 1) := by decide +kernel
theorem d_Ar_truth_7 : decode b_Ar_truth 7 = .ok (.getfield 66, 3) := by decide +kernel
theorem d_Ar_truth_10 : decode b_Ar_truth 10 = .ok (.iconst 2, 1) := by decide +kernel
theorem d_Ar_truth_11 : decode b_Ar_truth 11 = .ok (.if_icmp .eq 34, 3) := by decide +kernel
theorem d_Ar_truth_14 : decode b_Ar_truth 14 = .ok (.aload_n 2, 1) := by decide +kernel
theorem d_Ar_truth_15 : decode b_Ar_truth 15 = .ok (.getfield 79, 3) := by decide +kernel
theorem d_Ar_truth_18 : decode b_Ar_truth 18 = .ok (.dconst 0, 1) := by decide +kernel
theorem d_Ar_truth_19 : decode b_Ar_truth 19 = .ok (.dcmp .l, 1) := by decide +kernel
theorem d_Ar_truth_20 : decode b_Ar_truth 20 = .ok (.ifCond .ne 19, 3) := by decide +kernel
theorem d_Ar_truth_23 : decode b_Ar_truth 23 = .ok (.aload_n 2, 1) := by decide +kernel
theorem d_Ar_truth_24 : decode b_Ar_truth 24 = .ok (.getfield 66, 3) := by decide +kernel
theorem d_Ar_truth_27 : decode b_Ar_truth 27 = .ok (.iconst 3, 1) := by decide +kernel
theorem d_Ar_truth_28 : decode b_Ar_truth 28 = .ok (.if_icmp .ne 15, 3) := by decide +kernel
theorem d_Ar_truth_31 : decode b_Ar_truth 31 = .ok (.aload_n 2, 1) := by decide +kernel
theorem d_Ar_truth_32 : decode b_Ar_truth 32 = .ok (.getfield 69, 3) := by decide +kernel
theorem d_Ar_truth_35 : decode b_Ar_truth 35 = .ok (.iconst 1, 1) := by decide +kernel
theorem d_Ar_truth_36 : decode b_Ar_truth 36 = .ok (.if_icmp .ne 7, 3) := by decide +kernel
theorem d_Ar_truth_39 : decode b_Ar_truth 39 = .ok (.iconst 1, 1) := by decide +kernel
theorem d_Ar_truth_40 : decode b_Ar_truth 40 = .ok (.goto 4, 3) := by decide +kernel
theorem d_Ar_truth_43 : decode b_Ar_truth 43 = .ok (.iconst 0, 1) := by decide +kernel
theorem d_Ar_truth_44 : decode b_Ar_truth 44 = .ok (.ireturn, 1) := by decide +kernel
theorem d_Ar_truth_45 : decode b_Ar_truth 45 = .ok (.aload_n 2, 1) := by decide +kernel
theorem d_Ar_truth_46 : decode b_Ar_truth 46 = .ok (.getfield 83, 3) := by decide +kernel
theorem d_Ar_truth_49 : decode b_Ar_truth 49 = .ok (.ldc 110, 2) := by decide +kernel
theorem d_Ar_truth_51 : decode b_Ar_truth 51 = .ok (.invokestatic 123, 3) := by decide +kernel
theorem d_Ar_truth_54 : decode b_Ar_truth 54 = .ok (.ifCond .ne 7, 3) := by decide +kernel
theorem d_Ar_truth_57 : decode b_Ar_truth 57 = .ok (.iconst 1, 1) := by decide +kernel
theorem d_Ar_truth_58 : decode b_Ar_truth 58 = .ok (.goto 4, 3) := by decide +kernel
theorem d_Ar_truth_61 : decode b_Ar_truth 61 = .ok (.iconst 0, 1) := by decide +kernel
theorem d_Ar_truth_62 : decode b_Ar_truth 62 = .ok (.istore_n 3, 1) := by decide +kernel
theorem d_Ar_truth_63 : decode b_Ar_truth 63 = .ok (.iload_n 3, 1) := by decide +kernel
theorem d_Ar_truth_64 : decode b_Ar_truth 64 = .ok (.ifCond .ne 20, 3) := by decide +kernel
theorem d_Ar_truth_67 : decode b_Ar_truth 67 = .ok (.aload_n 2, 1) := by decide +kernel
theorem d_Ar_truth_68 : decode b_Ar_truth 68 = .ok (.getfield 83, 3) := by decide +kernel
theorem d_Ar_truth_71 : decode b_Ar_truth 71 = .ok (.ldc 112, 2) := by decide +kernel
theorem d_Ar_truth_73 : decode b_Ar_truth 73 = .ok (.invokestatic 123, 3) := by decide +kernel
theorem d_Ar_truth_76 : decode b_Ar_truth 76 = .ok (.ifCond .eq 8, 3) := by decide +kernel
theorem d_Ar_truth_79 : decode b_Ar_truth 79 = .ok (.aload_n 0, 1) := by decide +kernel
theorem d_Ar_truth_80 : decode b_Ar_truth 80 = .ok (.iconst 3, 1) := by decide +kernel
theorem d_Ar_truth_81 : decode b_Ar_truth 81 = .ok (.invokevirtual 72, 3) := by decide +kernel
theorem d_Ar_truth_84 : decode b_Ar_truth 84 = .ok (.iload_n 3, 1) := by decide +kernel
theorem d_Ar_truth_85 : decode b_Ar_truth 85 = .ok (.ireturn, 1) := by decide +kernel
theorem p_Ar_truth_b84 (d : Nat)  (v3 : Int32) (h : gk_H) : gk_P gw_I (d + 5) y_Ar_truth b_Ar_truth 4 (some .boolean) [] (f_Ar_truth_b84  v3 h) 84 [(3, .int v3)] [] h := by
  unfold f_Ar_truth_b84
  refine gk_iload_n (pc := 84) 0 d_Ar_truth_84 rfl ?_
  exact gk_zret (pc := 85) rfl d_Ar_truth_85 rfl
theorem p_Ar_truth_b62 (d : Nat)  (v0 : Option Nat) (v2 : Option Nat) (s0 : Int32) (h : gk_H) : gk_P gw_I (d + 5) y_Ar_truth b_Ar_truth 4 (some .boolean) [] (f_Ar_truth_b62  v0 v2 s0 h) 62 [(0, va_rf v0), (2, va_rf v2)] [.int s0] h := by
  unfold f_Ar_truth_b62
  refine gk_istore_n (pc := 62) (L' := [(3, .int s0), (0, va_rf v0), (2, va_rf v2)]) d_Ar_truth_62 (Nat.le_of_ble_eq_true rfl) (by simp [gk_s1, gk_s2, gk_cat_rf, gk_catI, gk_catJ, gk_catD] <;> decide) ?_
  refine gk_iload_n (pc := 63) 0 d_Ar_truth_63 rfl ?_
  refine gk_if_ne (pc := 64) 84 d_Ar_truth_64 rfl (fun _ => ?_) (fun _ => ?_)
  · refine gk_aload_n (pc := 67) 2 d_Ar_truth_67 rfl ?_
    refine gk_getR (pc := 68) 2 3 d_Ar_truth_68 rfl (Nat.le_of_ble_eq_true rfl) tw_208 fun x1 => ?_
    refine gk_ldcS (pc := 71) "FALSE" 8 d_Ar_truth_71 (by decide +kernel) ?_
    refine gk_callS (pc := 73) (d := (d + 4)) (w' := gv_I) (as := [va_rf x1, va_rf (some 8)]) (n := 2) d_Ar_truth_73 rfl rfl (Nat.le_of_ble_eq_true rfl) tw_1307 tw_977 tw_116 cw_Le_order hy_Le_order (Nat.le_of_ble_eq_true rfl) (p_Le_order d x1 (some 8) h) fun x2 h1 => ?_
    refine gk_if_eq (pc := 76) 84 d_Ar_truth_76 rfl (fun _ => ?_) (fun _ => ?_)
    · refine gk_weak [0] (L' := [(3, .int s0)]) rfl ?_
      exact p_Ar_truth_b84 d s0 h1
    · refine gk_aload_n (pc := 79) 1 d_Ar_truth_79 rfl ?_
      refine gk_iconst (pc := 80) (3 : Int32) d_Ar_truth_80 rfl ?_
      refine gk_callV (pc := 81) (d := (d + 4)) (w' := gv_V) (as := [.int (3 : Int32)]) (n := 1) 4 d_Ar_truth_81 rfl rfl rfl rfl (Nat.le_of_ble_eq_true rfl) tw_799 tw_800 tw_801 tw_96 cw_Ar_blame hy_Ar_blame (Nat.le_of_ble_eq_true rfl) (p_Ar_blame (d + 4) v0 (3 : Int32) h1) fun _ h2 => ?_
      refine gk_weak [0] (L' := [(3, .int s0)]) rfl ?_
      exact p_Ar_truth_b84 d s0 h2
  · refine gk_weak [0] (L' := [(3, .int s0)]) rfl ?_
    exact p_Ar_truth_b84 d s0 h
theorem p_Ar_truth_b44 (d : Nat)  (s0 : Int32) (h : gk_H) : gk_P gw_I (d + 5) y_Ar_truth b_Ar_truth 4 (some .boolean) [] (f_Ar_truth_b44  s0 h) 44 [] [.int s0] h := by
  unfold f_Ar_truth_b44
  exact gk_zret (pc := 44) rfl d_Ar_truth_44 rfl
theorem p_Ar_truth_b39 (d : Nat)   (h : gk_H) : gk_P gw_I (d + 5) y_Ar_truth b_Ar_truth 4 (some .boolean) [] (f_Ar_truth_b39   h) 39 [] [] h := by
  unfold f_Ar_truth_b39
  refine gk_iconst (pc := 39) (1 : Int32) d_Ar_truth_39 rfl ?_
  refine gk_goto (pc := 40) 44 d_Ar_truth_40 rfl ?_
  exact p_Ar_truth_b44 d (1 : Int32) h
theorem p_Ar_truth_b43 (d : Nat)   (h : gk_H) : gk_P gw_I (d + 5) y_Ar_truth b_Ar_truth 4 (some .boolean) [] (f_Ar_truth_b43   h) 43 [] [] h := by
  unfold f_Ar_truth_b43
  refine gk_iconst (pc := 43) (0 : Int32) d_Ar_truth_43 rfl ?_
  exact p_Ar_truth_b44 d (0 : Int32) h
theorem w_Ar_truth (d : Nat) (a0 : Option Nat) (a1 : Int32) (h : gk_H) : gk_P gw_I (d + 5) y_Ar_truth b_Ar_truth 4 (some .boolean) [] (f_Ar_truth a0 a1 h) 0 [(0, va_rf a0), (1, .int a1)] [] h := by
  unfold f_Ar_truth
  refine gk_aload_n (pc := 0) 0 d_Ar_truth_0 rfl ?_
  refine gk_iload_n (pc := 1) 1 d_Ar_truth_1 rfl ?_
  refine gk_callV (pc := 2) (d := (d + 4)) (w' := gv_R) (as := [.int a1]) (n := 1) 4 d_Ar_truth_2 rfl rfl rfl rfl (Nat.le_of_ble_eq_true rfl) tw_791 tw_792 tw_793 tw_96 cw_Ar_sound hy_Ar_sound (Nat.le_of_ble_eq_true rfl) (p_Ar_sound (d + 3) a0 a1 h) fun x1 h1 => ?_
  refine gk_astore_n (pc := 5) (L' := [(2, va_rf x1), (0, va_rf a0), (1, .int a1)]) d_Ar_truth_5 (Nat.le_of_ble_eq_true rfl) rfl ?_
  refine gk_aload_n (pc := 6) 0 d_Ar_truth_6 rfl ?_
  refine gk_getI (pc := 7) 2 0 d_Ar_truth_7 rfl (Nat.le_of_ble_eq_true rfl) tw_191 fun x2 => ?_
  refine gk_iconst (pc := 10) (2 : Int32) d_Ar_truth_10 rfl ?_
  refine gk_icmp_eq (pc := 11) 45 d_Ar_truth_11 rfl (fun _ => ?_) (fun _ => ?_)
  · refine gk_aload_n (pc := 45) 0 d_Ar_truth_45 rfl ?_
    refine gk_getR (pc := 46) 2 3 d_Ar_truth_46 rfl (Nat.le_of_ble_eq_true rfl) tw_208 fun x3 => ?_
    refine gk_ldcS (pc := 49) "TRUE" 6 d_Ar_truth_49 (by decide +kernel) ?_
    refine gk_callS (pc := 51) (d := (d + 4)) (w' := gv_I) (as := [va_rf x3, va_rf (some 6)]) (n := 2) d_Ar_truth_51 rfl rfl (Nat.le_of_ble_eq_true rfl) tw_1307 tw_977 tw_116 cw_Le_order hy_Le_order (Nat.le_of_ble_eq_true rfl) (p_Le_order d x3 (some 6) h1) fun x4 h2 => ?_
    refine gk_if_ne (pc := 54) 61 d_Ar_truth_54 rfl (fun _ => ?_) (fun _ => ?_)
    · refine gk_iconst (pc := 57) (1 : Int32) d_Ar_truth_57 rfl ?_
      refine gk_goto (pc := 58) 62 d_Ar_truth_58 rfl ?_
      refine gk_weak [1, 0] (L' := [(0, va_rf a0), (2, va_rf x1)]) rfl ?_
      exact p_Ar_truth_b62 d a0 x1 (1 : Int32) h2
    · refine gk_iconst (pc := 61) (0 : Int32) d_Ar_truth_61 rfl ?_
      refine gk_weak [1, 0] (L' := [(0, va_rf a0), (2, va_rf x1)]) rfl ?_
      exact p_Ar_truth_b62 d a0 x1 (0 : Int32) h2
  · refine gk_aload_n (pc := 14) 0 d_Ar_truth_14 rfl ?_
    refine gk_getD (pc := 15) 2 2 d_Ar_truth_15 rfl (Nat.le_of_ble_eq_true rfl) tw_201 fun x5 => ?_
    refine gk_dconst0 (pc := 18) d_Ar_truth_18 ?_
    refine gk_dcmp (pc := 19) d_Ar_truth_19 ?_
    refine gk_if_ne (pc := 20) 39 d_Ar_truth_20 rfl (fun _ => ?_) (fun _ => ?_)
    · refine gk_aload_n (pc := 23) 0 d_Ar_truth_23 rfl ?_
      refine gk_getI (pc := 24) 2 0 d_Ar_truth_24 rfl (Nat.le_of_ble_eq_true rfl) tw_191 fun x6 => ?_
      refine gk_iconst (pc := 27) (3 : Int32) d_Ar_truth_27 rfl ?_
      refine gk_icmp_ne (pc := 28) 43 d_Ar_truth_28 rfl (fun _ => ?_) (fun _ => ?_)
      · refine gk_aload_n (pc := 31) 0 d_Ar_truth_31 rfl ?_
        refine gk_getI (pc := 32) 2 1 d_Ar_truth_32 rfl (Nat.le_of_ble_eq_true rfl) tw_196 fun x7 => ?_
        refine gk_iconst (pc := 35) (1 : Int32) d_Ar_truth_35 rfl ?_
        refine gk_icmp_ne (pc := 36) 43 d_Ar_truth_36 rfl (fun _ => ?_) (fun _ => ?_)
        · refine gk_weak [] (L' := []) rfl ?_
          exact p_Ar_truth_b39 d h1
        · refine gk_weak [] (L' := []) rfl ?_
          exact p_Ar_truth_b43 d h1
      · refine gk_weak [] (L' := []) rfl ?_
        exact p_Ar_truth_b43 d h1
    · refine gk_weak [] (L' := []) rfl ?_
      exact p_Ar_truth_b39 d h1
theorem p_Ar_truth (d : Nat) (a0 : Option Nat) (a1 : Int32) (h : gk_H) : ∀ r h1, f_Ar_truth a0 a1 h = some (r, h1) → gk_M (d + 5) y_Ar_truth b_Ar_truth 4 (some .boolean) [va_rf a0, .int a1] h (.inl (gv_I r)) h1 :=
  fun r h1 e => gk_M_of2 (by decide +kernel) (by simp [lv_args, gk_cat_rf, gk_catI, gk_catJ, gk_catD, gv_V, gv_I, gv_J, gv_D, gv_R]) (by simp [lg_sl, gk_cat_rf, gk_catI, gk_catJ, gk_catD, gv_V, gv_I, gv_J, gv_D, gv_R]) (w_Ar_truth d a0 a1 h r h1 e)
theorem d_Ch_truthCells_0 : decode b_Ch_truthCells 0 = .ok (.iconst 0, 1) := by decide +kernel
theorem d_Ch_truthCells_1 : decode b_Ch_truthCells 1 = .ok (.istore_n 2, 1) := by decide +kernel
theorem d_Ch_truthCells_2 : decode b_Ch_truthCells 2 = .ok (.iconst 0, 1) := by decide +kernel
theorem d_Ch_truthCells_3 : decode b_Ch_truthCells 3 = .ok (.istore_n 3, 1) := by decide +kernel
theorem d_Ch_truthCells_4 : decode b_Ch_truthCells 4 = .ok (.iload_n 3, 1) := by decide +kernel
theorem d_Ch_truthCells_5 : decode b_Ch_truthCells 5 = .ok (.aload_n 0, 1) := by decide +kernel
theorem d_Ch_truthCells_6 : decode b_Ch_truthCells 6 = .ok (.invokevirtual 98, 3) := by decide +kernel
theorem d_Ch_truthCells_9 : decode b_Ch_truthCells 9 = .ok (.if_icmp .ge 88, 3) := by decide +kernel
theorem d_Ch_truthCells_12 : decode b_Ch_truthCells 12 = .ok (.aload_n 0, 1) := by decide +kernel
theorem d_Ch_truthCells_13 : decode b_Ch_truthCells 13 = .ok (.iload_n 3, 1) := by decide +kernel
theorem d_Ch_truthCells_14 : decode b_Ch_truthCells 14 = .ok (.invokevirtual 101, 3) := by decide +kernel
theorem d_Ch_truthCells_17 : decode b_Ch_truthCells 17 = .ok (.astore 4, 2) := by decide +kernel
theorem d_Ch_truthCells_19 : decode b_Ch_truthCells 19 = .ok (.aload 4, 2) := by decide +kernel
theorem d_Ch_truthCells_21 : decode b_Ch_truthCells 21 = .ok (.getfield 79, 3) := by decide +kernel
theorem d_Ch_truthCells_24 : decode b_Ch_truthCells 24 = .ok (.iconst 1, 1) := by decide +kernel
theorem d_Ch_truthCells_25 : decode b_Ch_truthCells 25 = .ok (.if_icmp .eq 12, 3) := by decide +kernel
theorem d_Ch_truthCells_28 : decode b_Ch_truthCells 28 = .ok (.aload 4, 2) := by decide +kernel
theorem d_Ch_truthCells_30 : decode b_Ch_truthCells 30 = .ok (.getfield 79, 3) := by decide +kernel
theorem d_Ch_truthCells_33 : decode b_Ch_truthCells 33 = .ok (.iconst 3, 1) := by decide +kernel
theorem d_Ch_truthCells_34 : decode b_Ch_truthCells 34 = .ok (.if_icmp .ne 7, 3) := by decide +kernel
theorem d_Ch_truthCells_37 : decode b_Ch_truthCells 37 = .ok (.iconst 1, 1) := by decide +kernel
theorem d_Ch_truthCells_38 : decode b_Ch_truthCells 38 = .ok (.goto 4, 3) := by decide +kernel
theorem d_Ch_truthCells_41 : decode b_Ch_truthCells 41 = .ok (.iconst 0, 1) := by decide +kernel
theorem d_Ch_truthCells_42 : decode b_Ch_truthCells 42 = .ok (.istore 5, 2) := by decide +kernel
theorem d_Ch_truthCells_44 : decode b_Ch_truthCells 44 = .ok (.aload 4, 2) := by decide +kernel
theorem d_Ch_truthCells_46 : decode b_Ch_truthCells 46 = .ok (.getfield 104, 3) := by decide +kernel
theorem d_Ch_truthCells_49 : decode b_Ch_truthCells 49 = .ok (.dconst 0, 1) := by decide +kernel
theorem d_Ch_truthCells_50 : decode b_Ch_truthCells 50 = .ok (.dcmp .l, 1) := by decide +kernel
theorem d_Ch_truthCells_51 : decode b_Ch_truthCells 51 = .ok (.ifCond .ne 11, 3) := by decide +kernel
theorem d_Ch_truthCells_54 : decode b_Ch_truthCells 54 = .ok (.aload 4, 2) := by decide +kernel
theorem d_Ch_truthCells_56 : decode b_Ch_truthCells 56 = .ok (.getfield 83, 3) := by decide +kernel
theorem d_Ch_truthCells_59 : decode b_Ch_truthCells 59 = .ok (.ifCond .eq 7, 3) := by decide +kernel
theorem d_Ch_truthCells_62 : decode b_Ch_truthCells 62 = .ok (.iconst 1, 1) := by decide +kernel
theorem d_Ch_truthCells_63 : decode b_Ch_truthCells 63 = .ok (.goto 4, 3) := by decide +kernel
theorem d_Ch_truthCells_66 : decode b_Ch_truthCells 66 = .ok (.iconst 0, 1) := by decide +kernel
theorem d_Ch_truthCells_67 : decode b_Ch_truthCells 67 = .ok (.istore 6, 2) := by decide +kernel
theorem d_Ch_truthCells_69 : decode b_Ch_truthCells 69 = .ok (.iload_n 2, 1) := by decide +kernel
theorem d_Ch_truthCells_70 : decode b_Ch_truthCells 70 = .ok (.iload 5, 2) := by decide +kernel
theorem d_Ch_truthCells_72 : decode b_Ch_truthCells 72 = .ok (.ifCond .eq 16, 3) := by decide +kernel
theorem d_Ch_truthCells_75 : decode b_Ch_truthCells 75 = .ok (.iload 6, 2) := by decide +kernel
theorem d_Ch_truthCells_77 : decode b_Ch_truthCells 77 = .ok (.ifCond .ne 7, 3) := by decide +kernel
theorem d_Ch_truthCells_80 : decode b_Ch_truthCells 80 = .ok (.iload_n 1, 1) := by decide +kernel
theorem d_Ch_truthCells_81 : decode b_Ch_truthCells 81 = .ok (.ifCond .ne 7, 3) := by decide +kernel
theorem d_Ch_truthCells_84 : decode b_Ch_truthCells 84 = .ok (.iconst 1, 1) := by decide +kernel
theorem d_Ch_truthCells_85 : decode b_Ch_truthCells 85 = .ok (.goto 4, 3) := by decide +kernel
theorem d_Ch_truthCells_88 : decode b_Ch_truthCells 88 = .ok (.iconst 0, 1) := by decide +kernel
theorem d_Ch_truthCells_89 : decode b_Ch_truthCells 89 = .ok (.iadd, 1) := by decide +kernel
theorem d_Ch_truthCells_90 : decode b_Ch_truthCells 90 = .ok (.istore_n 2, 1) := by decide +kernel
theorem d_Ch_truthCells_91 : decode b_Ch_truthCells 91 = .ok (.iinc 3 1, 3) := by decide +kernel
theorem d_Ch_truthCells_94 : decode b_Ch_truthCells 94 = .ok (.goto (-90), 3) := by decide +kernel
theorem d_Ch_truthCells_97 : decode b_Ch_truthCells 97 = .ok (.iload_n 2, 1) := by decide +kernel
theorem d_Ch_truthCells_98 : decode b_Ch_truthCells 98 = .ok (.ireturn, 1) := by decide +kernel
theorem p_Ch_truthCells_b89 (d : Nat) (b4 : Option Nat → Int32 → Int32 → Int32 → gk_H → Option (Int32 × gk_H)) (q4 : ∀ (v0 : Option Nat) (v1 : Int32) (v2 : Int32) (v3 : Int32) (h : gk_H), gk_P gw_I (d + 1) y_Ch_truthCells b_Ch_truthCells 7 (some .int) [] (b4 v0 v1 v2 v3 h) 4 [(0, va_rf v0), (1, .int v1), (2, .int v2), (3, .int v3)] [] h) (v0 : Option Nat) (v1 : Int32) (v3 : Int32) (s0 : Int32) (s1 : Int32) (h : gk_H) : gk_P gw_I (d + 1) y_Ch_truthCells b_Ch_truthCells 7 (some .int) [] (f_Ch_truthCells_b89 b4 v0 v1 v3 s0 s1 h) 89 [(0, va_rf v0), (1, .int v1), (3, .int v3)] [.int s1, .int s0] h := by
  unfold f_Ch_truthCells_b89
  refine gk_iadd (pc := 89) d_Ch_truthCells_89 ?_
  refine gk_topI (pc := 90) fun x1 => ?_
  refine gk_istore_n (pc := 90) (L' := [(2, .int x1), (0, va_rf v0), (1, .int v1), (3, .int v3)]) d_Ch_truthCells_90 (Nat.le_of_ble_eq_true rfl) rfl ?_
  refine gk_iincN (pc := 91) 3 (1 : Int32) (L' := fun x2 => [(3, .int x2), (2, .int x1), (0, va_rf v0), (1, .int v1)]) d_Ch_truthCells_91 rfl rfl (Nat.le_of_ble_eq_true rfl) (fun _ => rfl) fun x2 => ?_
  refine gk_goto (pc := 94) 4 d_Ch_truthCells_94 rfl ?_
  refine gk_weak [2, 3, 1, 0] (L' := [(0, va_rf v0), (1, .int v1), (2, .int x1), (3, .int x2)]) rfl ?_
  exact q4 v0 v1 x1 x2 h
theorem p_Ch_truthCells_b88 (d : Nat) (b4 : Option Nat → Int32 → Int32 → Int32 → gk_H → Option (Int32 × gk_H)) (q4 : ∀ (v0 : Option Nat) (v1 : Int32) (v2 : Int32) (v3 : Int32) (h : gk_H), gk_P gw_I (d + 1) y_Ch_truthCells b_Ch_truthCells 7 (some .int) [] (b4 v0 v1 v2 v3 h) 4 [(0, va_rf v0), (1, .int v1), (2, .int v2), (3, .int v3)] [] h) (v0 : Option Nat) (v1 : Int32) (v3 : Int32) (s0 : Int32) (h : gk_H) : gk_P gw_I (d + 1) y_Ch_truthCells b_Ch_truthCells 7 (some .int) [] (f_Ch_truthCells_b88 b4 v0 v1 v3 s0 h) 88 [(0, va_rf v0), (1, .int v1), (3, .int v3)] [.int s0] h := by
  unfold f_Ch_truthCells_b88
  refine gk_iconst (pc := 88) (0 : Int32) d_Ch_truthCells_88 rfl ?_
  exact p_Ch_truthCells_b89 d b4 q4 v0 v1 v3 s0 (0 : Int32) h
theorem p_Ch_truthCells_b84 (d : Nat) (b4 : Option Nat → Int32 → Int32 → Int32 → gk_H → Option (Int32 × gk_H)) (q4 : ∀ (v0 : Option Nat) (v1 : Int32) (v2 : Int32) (v3 : Int32) (h : gk_H), gk_P gw_I (d + 1) y_Ch_truthCells b_Ch_truthCells 7 (some .int) [] (b4 v0 v1 v2 v3 h) 4 [(0, va_rf v0), (1, .int v1), (2, .int v2), (3, .int v3)] [] h) (v0 : Option Nat) (v1 : Int32) (v3 : Int32) (s0 : Int32) (h : gk_H) : gk_P gw_I (d + 1) y_Ch_truthCells b_Ch_truthCells 7 (some .int) [] (f_Ch_truthCells_b84 b4 v0 v1 v3 s0 h) 84 [(0, va_rf v0), (1, .int v1), (3, .int v3)] [.int s0] h := by
  unfold f_Ch_truthCells_b84
  refine gk_iconst (pc := 84) (1 : Int32) d_Ch_truthCells_84 rfl ?_
  refine gk_goto (pc := 85) 89 d_Ch_truthCells_85 rfl ?_
  exact p_Ch_truthCells_b89 d b4 q4 v0 v1 v3 s0 (1 : Int32) h
theorem p_Ch_truthCells_b67 (d : Nat) (b4 : Option Nat → Int32 → Int32 → Int32 → gk_H → Option (Int32 × gk_H)) (q4 : ∀ (v0 : Option Nat) (v1 : Int32) (v2 : Int32) (v3 : Int32) (h : gk_H), gk_P gw_I (d + 1) y_Ch_truthCells b_Ch_truthCells 7 (some .int) [] (b4 v0 v1 v2 v3 h) 4 [(0, va_rf v0), (1, .int v1), (2, .int v2), (3, .int v3)] [] h) (v0 : Option Nat) (v1 : Int32) (v2 : Int32) (v3 : Int32) (v5 : Int32) (s0 : Int32) (h : gk_H) : gk_P gw_I (d + 1) y_Ch_truthCells b_Ch_truthCells 7 (some .int) [] (f_Ch_truthCells_b67 b4 v0 v1 v2 v3 v5 s0 h) 67 [(0, va_rf v0), (1, .int v1), (2, .int v2), (3, .int v3), (5, .int v5)] [.int s0] h := by
  unfold f_Ch_truthCells_b67
  refine gk_istore (pc := 67) (L' := [(6, .int s0), (0, va_rf v0), (1, .int v1), (2, .int v2), (3, .int v3), (5, .int v5)]) d_Ch_truthCells_67 (Nat.le_of_ble_eq_true rfl) rfl ?_
  refine gk_iload_n (pc := 69) 3 d_Ch_truthCells_69 rfl ?_
  refine gk_iload (pc := 70) 5 d_Ch_truthCells_70 rfl ?_
  refine gk_if_eq (pc := 72) 88 d_Ch_truthCells_72 rfl (fun _ => ?_) (fun _ => ?_)
  · refine gk_weak [1, 2, 4] (L' := [(0, va_rf v0), (1, .int v1), (3, .int v3)]) rfl ?_
    exact p_Ch_truthCells_b88 d b4 q4 v0 v1 v3 v2 h
  · refine gk_iload (pc := 75) 0 d_Ch_truthCells_75 rfl ?_
    refine gk_if_ne (pc := 77) 84 d_Ch_truthCells_77 rfl (fun _ => ?_) (fun _ => ?_)
    · refine gk_iload_n (pc := 80) 2 d_Ch_truthCells_80 rfl ?_
      refine gk_if_ne (pc := 81) 88 d_Ch_truthCells_81 rfl (fun _ => ?_) (fun _ => ?_)
      · refine gk_weak [1, 2, 4] (L' := [(0, va_rf v0), (1, .int v1), (3, .int v3)]) rfl ?_
        exact p_Ch_truthCells_b84 d b4 q4 v0 v1 v3 v2 h
      · refine gk_weak [1, 2, 4] (L' := [(0, va_rf v0), (1, .int v1), (3, .int v3)]) rfl ?_
        exact p_Ch_truthCells_b88 d b4 q4 v0 v1 v3 v2 h
    · refine gk_weak [1, 2, 4] (L' := [(0, va_rf v0), (1, .int v1), (3, .int v3)]) rfl ?_
      exact p_Ch_truthCells_b84 d b4 q4 v0 v1 v3 v2 h
theorem p_Ch_truthCells_b62 (d : Nat) (b4 : Option Nat → Int32 → Int32 → Int32 → gk_H → Option (Int32 × gk_H)) (q4 : ∀ (v0 : Option Nat) (v1 : Int32) (v2 : Int32) (v3 : Int32) (h : gk_H), gk_P gw_I (d + 1) y_Ch_truthCells b_Ch_truthCells 7 (some .int) [] (b4 v0 v1 v2 v3 h) 4 [(0, va_rf v0), (1, .int v1), (2, .int v2), (3, .int v3)] [] h) (v0 : Option Nat) (v1 : Int32) (v2 : Int32) (v3 : Int32) (v5 : Int32) (h : gk_H) : gk_P gw_I (d + 1) y_Ch_truthCells b_Ch_truthCells 7 (some .int) [] (f_Ch_truthCells_b62 b4 v0 v1 v2 v3 v5 h) 62 [(0, va_rf v0), (1, .int v1), (2, .int v2), (3, .int v3), (5, .int v5)] [] h := by
  unfold f_Ch_truthCells_b62
  refine gk_iconst (pc := 62) (1 : Int32) d_Ch_truthCells_62 rfl ?_
  refine gk_goto (pc := 63) 67 d_Ch_truthCells_63 rfl ?_
  exact p_Ch_truthCells_b67 d b4 q4 v0 v1 v2 v3 v5 (1 : Int32) h
theorem p_Ch_truthCells_b42 (d : Nat) (b4 : Option Nat → Int32 → Int32 → Int32 → gk_H → Option (Int32 × gk_H)) (q4 : ∀ (v0 : Option Nat) (v1 : Int32) (v2 : Int32) (v3 : Int32) (h : gk_H), gk_P gw_I (d + 1) y_Ch_truthCells b_Ch_truthCells 7 (some .int) [] (b4 v0 v1 v2 v3 h) 4 [(0, va_rf v0), (1, .int v1), (2, .int v2), (3, .int v3)] [] h) (v0 : Option Nat) (v1 : Int32) (v2 : Int32) (v3 : Int32) (v4 : Option Nat) (s0 : Int32) (h : gk_H) : gk_P gw_I (d + 1) y_Ch_truthCells b_Ch_truthCells 7 (some .int) [] (f_Ch_truthCells_b42 b4 v0 v1 v2 v3 v4 s0 h) 42 [(0, va_rf v0), (1, .int v1), (2, .int v2), (3, .int v3), (4, va_rf v4)] [.int s0] h := by
  unfold f_Ch_truthCells_b42
  refine gk_istore (pc := 42) (L' := [(5, .int s0), (0, va_rf v0), (1, .int v1), (2, .int v2), (3, .int v3), (4, va_rf v4)]) d_Ch_truthCells_42 (Nat.le_of_ble_eq_true rfl) (by simp [gk_s1, gk_s2, gk_cat_rf, gk_catI, gk_catJ, gk_catD] <;> decide) ?_
  refine gk_aload (pc := 44) 5 d_Ch_truthCells_44 rfl ?_
  refine gk_getD (pc := 46) 2 2 d_Ch_truthCells_46 rfl (Nat.le_of_ble_eq_true rfl) tw_200 fun x1 => ?_
  refine gk_dconst0 (pc := 49) d_Ch_truthCells_49 ?_
  refine gk_dcmp (pc := 50) d_Ch_truthCells_50 ?_
  refine gk_if_ne (pc := 51) 62 d_Ch_truthCells_51 rfl (fun _ => ?_) (fun _ => ?_)
  · refine gk_aload (pc := 54) 5 d_Ch_truthCells_54 rfl ?_
    refine gk_getI (pc := 56) 2 1 d_Ch_truthCells_56 rfl (Nat.le_of_ble_eq_true rfl) tw_194 fun x2 => ?_
    refine gk_if_eq (pc := 59) 66 d_Ch_truthCells_59 rfl (fun _ => ?_) (fun _ => ?_)
    · refine gk_iconst (pc := 66) (0 : Int32) d_Ch_truthCells_66 rfl ?_
      refine gk_weak [1, 2, 3, 4, 0] (L' := [(0, va_rf v0), (1, .int v1), (2, .int v2), (3, .int v3), (5, .int s0)]) rfl ?_
      exact p_Ch_truthCells_b67 d b4 q4 v0 v1 v2 v3 s0 (0 : Int32) h
    · refine gk_weak [1, 2, 3, 4, 0] (L' := [(0, va_rf v0), (1, .int v1), (2, .int v2), (3, .int v3), (5, .int s0)]) rfl ?_
      exact p_Ch_truthCells_b62 d b4 q4 v0 v1 v2 v3 s0 h
  · refine gk_weak [1, 2, 3, 4, 0] (L' := [(0, va_rf v0), (1, .int v1), (2, .int v2), (3, .int v3), (5, .int s0)]) rfl ?_
    exact p_Ch_truthCells_b62 d b4 q4 v0 v1 v2 v3 s0 h
theorem p_Ch_truthCells_b37 (d : Nat) (b4 : Option Nat → Int32 → Int32 → Int32 → gk_H → Option (Int32 × gk_H)) (q4 : ∀ (v0 : Option Nat) (v1 : Int32) (v2 : Int32) (v3 : Int32) (h : gk_H), gk_P gw_I (d + 1) y_Ch_truthCells b_Ch_truthCells 7 (some .int) [] (b4 v0 v1 v2 v3 h) 4 [(0, va_rf v0), (1, .int v1), (2, .int v2), (3, .int v3)] [] h) (v0 : Option Nat) (v1 : Int32) (v2 : Int32) (v3 : Int32) (v4 : Option Nat) (h : gk_H) : gk_P gw_I (d + 1) y_Ch_truthCells b_Ch_truthCells 7 (some .int) [] (f_Ch_truthCells_b37 b4 v0 v1 v2 v3 v4 h) 37 [(0, va_rf v0), (1, .int v1), (2, .int v2), (3, .int v3), (4, va_rf v4)] [] h := by
  unfold f_Ch_truthCells_b37
  refine gk_iconst (pc := 37) (1 : Int32) d_Ch_truthCells_37 rfl ?_
  refine gk_goto (pc := 38) 42 d_Ch_truthCells_38 rfl ?_
  exact p_Ch_truthCells_b42 d b4 q4 v0 v1 v2 v3 v4 (1 : Int32) h
theorem p_Ch_truthCells_b4 (d : Nat)  : ∀ (fu : Nat) (v0 : Option Nat) (v1 : Int32) (v2 : Int32) (v3 : Int32) (h : gk_H), gk_P gw_I (d + 1) y_Ch_truthCells b_Ch_truthCells 7 (some .int) [] (f_Ch_truthCells_b4  fu v0 v1 v2 v3 h) 4 [(0, va_rf v0), (1, .int v1), (2, .int v2), (3, .int v3)] [] h := by
  intro fu
  induction fu with
  | zero => intros; exact gk_none
  | succ fu q4 =>
    intro v0 v1 v2 v3 h
    rw [f_Ch_truthCells_b4]
    refine gk_iload_n (pc := 4) 3 d_Ch_truthCells_4 rfl ?_
    refine gk_aload_n (pc := 5) 0 d_Ch_truthCells_5 rfl ?_
    refine gk_callV (pc := 6) (d := d) (w' := gv_I) (as := []) (n := 0) 2 d_Ch_truthCells_6 rfl rfl rfl rfl (Nat.le_of_ble_eq_true rfl) tw_1326 tw_776 tw_777 tw_97 cw_Va_howManyCells hy_Va_howManyCells (Nat.le_of_ble_eq_true rfl) (p_Va_howManyCells d v0 h) fun x1 h1 => ?_
    refine gk_icmp_ge (pc := 9) 97 d_Ch_truthCells_9 rfl (fun _ => ?_) (fun _ => ?_)
    · refine gk_iload_n (pc := 97) 2 d_Ch_truthCells_97 rfl ?_
      exact gk_iret (pc := 98) rfl d_Ch_truthCells_98 rfl
    · refine gk_aload_n (pc := 12) 0 d_Ch_truthCells_12 rfl ?_
      refine gk_iload_n (pc := 13) 3 d_Ch_truthCells_13 rfl ?_
      refine gk_callV (pc := 14) (d := d) (w' := gv_R) (as := [.int v3]) (n := 1) 2 d_Ch_truthCells_14 rfl rfl rfl rfl (Nat.le_of_ble_eq_true rfl) tw_1327 tw_780 tw_781 tw_97 cw_Va_cellAt hy_Va_cellAt (Nat.le_of_ble_eq_true rfl) (p_Va_cellAt d v0 v3 h1) fun x2 h2 => ?_
      refine gk_astore (pc := 17) (L' := [(4, va_rf x2), (0, va_rf v0), (1, .int v1), (2, .int v2), (3, .int v3)]) d_Ch_truthCells_17 (Nat.le_of_ble_eq_true rfl) rfl ?_
      refine gk_aload (pc := 19) 0 d_Ch_truthCells_19 rfl ?_
      refine gk_getI (pc := 21) 2 0 d_Ch_truthCells_21 rfl (Nat.le_of_ble_eq_true rfl) tw_187 fun x3 => ?_
      refine gk_iconst (pc := 24) (1 : Int32) d_Ch_truthCells_24 rfl ?_
      refine gk_icmp_eq (pc := 25) 37 d_Ch_truthCells_25 rfl (fun _ => ?_) (fun _ => ?_)
      · refine gk_weak [1, 2, 3, 4, 0] (L' := [(0, va_rf v0), (1, .int v1), (2, .int v2), (3, .int v3), (4, va_rf x2)]) rfl ?_
        exact p_Ch_truthCells_b37 d (f_Ch_truthCells_b4 fu) q4 v0 v1 v2 v3 x2 h2
      · refine gk_aload (pc := 28) 0 d_Ch_truthCells_28 rfl ?_
        refine gk_getI (pc := 30) 2 0 d_Ch_truthCells_30 rfl (Nat.le_of_ble_eq_true rfl) tw_187 fun x4 => ?_
        refine gk_iconst (pc := 33) (3 : Int32) d_Ch_truthCells_33 rfl ?_
        refine gk_icmp_ne (pc := 34) 41 d_Ch_truthCells_34 rfl (fun _ => ?_) (fun _ => ?_)
        · refine gk_weak [1, 2, 3, 4, 0] (L' := [(0, va_rf v0), (1, .int v1), (2, .int v2), (3, .int v3), (4, va_rf x2)]) rfl ?_
          exact p_Ch_truthCells_b37 d (f_Ch_truthCells_b4 fu) q4 v0 v1 v2 v3 x2 h2
        · refine gk_iconst (pc := 41) (0 : Int32) d_Ch_truthCells_41 rfl ?_
          refine gk_weak [1, 2, 3, 4, 0] (L' := [(0, va_rf v0), (1, .int v1), (2, .int v2), (3, .int v3), (4, va_rf x2)]) rfl ?_
          exact p_Ch_truthCells_b42 d (f_Ch_truthCells_b4 fu) q4 v0 v1 v2 v3 x2 (0 : Int32) h2
theorem w_Ch_truthCells (d : Nat) (a0 : Option Nat) (a1 : Int32) (h : gk_H) : gk_P gw_I (d + 1) y_Ch_truthCells b_Ch_truthCells 7 (some .int) [] (f_Ch_truthCells a0 a1 h) 0 [(0, va_rf a0), (1, .int a1)] [] h := by
  unfold f_Ch_truthCells
  refine gk_iconst (pc := 0) (0 : Int32) d_Ch_truthCells_0 rfl ?_
  refine gk_istore_n (pc := 1) (L' := [(2, .int (0 : Int32)), (0, va_rf a0), (1, .int a1)]) d_Ch_truthCells_1 (Nat.le_of_ble_eq_true rfl) rfl ?_
  refine gk_iconst (pc := 2) (0 : Int32) d_Ch_truthCells_2 rfl ?_
  refine gk_istore_n (pc := 3) (L' := [(3, .int (0 : Int32)), (2, .int (0 : Int32)), (0, va_rf a0), (1, .int a1)]) d_Ch_truthCells_3 (Nat.le_of_ble_eq_true rfl) rfl ?_
  refine gk_weak [2, 3, 1, 0] (L' := [(0, va_rf a0), (1, .int a1), (2, .int (0 : Int32)), (3, .int (0 : Int32))]) rfl ?_
  exact p_Ch_truthCells_b4 d gk_F a0 a1 (0 : Int32) (0 : Int32) h
theorem p_Ch_truthCells (d : Nat) (a0 : Option Nat) (a1 : Int32) (h : gk_H) : ∀ r h1, f_Ch_truthCells a0 a1 h = some (r, h1) → gk_M (d + 1) y_Ch_truthCells b_Ch_truthCells 7 (some .int) [va_rf a0, .int a1] h (.inl (gv_I r)) h1 :=
  fun r h1 e => gk_M_of2 (by decide +kernel) (by simp [lv_args, gk_cat_rf, gk_catI, gk_catJ, gk_catD, gv_V, gv_I, gv_J, gv_D, gv_R]) (by simp [lg_sl, gk_cat_rf, gk_catI, gk_catJ, gk_catD, gv_V, gv_I, gv_J, gv_D, gv_R]) (w_Ch_truthCells d a0 a1 h r h1 e)
theorem d_Ch_ofTruths_0 : decode b_Ch_ofTruths 0 = .ok (.iconst 0, 1) := by decide +kernel
theorem d_Ch_ofTruths_1 : decode b_Ch_ofTruths 1 = .ok (.istore_n 2, 1) := by decide +kernel
theorem d_Ch_ofTruths_2 : decode b_Ch_ofTruths 2 = .ok (.iconst 0, 1) := by decide +kernel
theorem d_Ch_ofTruths_3 : decode b_Ch_ofTruths 3 = .ok (.istore_n 3, 1) := by decide +kernel
theorem d_Ch_ofTruths_4 : decode b_Ch_ofTruths 4 = .ok (.iconst 0, 1) := by decide +kernel
theorem d_Ch_ofTruths_5 : decode b_Ch_ofTruths 5 = .ok (.istore 4, 2) := by decide +kernel
theorem d_Ch_ofTruths_7 : decode b_Ch_ofTruths 7 = .ok (.iload 4, 2) := by decide +kernel
theorem d_Ch_ofTruths_9 : decode b_Ch_ofTruths 9 = .ok (.aload_n 1, 1) := by decide +kernel
theorem d_Ch_ofTruths_10 : decode b_Ch_ofTruths 10 = .ok (.invokevirtual 75, 3) := by decide +kernel
theorem d_Ch_ofTruths_13 : decode b_Ch_ofTruths 13 = .ok (.if_icmp .ge 73, 3) := by decide +kernel
theorem d_Ch_ofTruths_16 : decode b_Ch_ofTruths 16 = .ok (.aload_n 1, 1) := by decide +kernel
theorem d_Ch_ofTruths_17 : decode b_Ch_ofTruths 17 = .ok (.iload 4, 2) := by decide +kernel
theorem d_Ch_ofTruths_19 : decode b_Ch_ofTruths 19 = .ok (.invokevirtual 13, 3) := by decide +kernel
theorem d_Ch_ofTruths_22 : decode b_Ch_ofTruths 22 = .ok (.astore 5, 2) := by decide +kernel
theorem d_Ch_ofTruths_24 : decode b_Ch_ofTruths 24 = .ok (.aload 5, 2) := by decide +kernel
theorem d_Ch_ofTruths_26 : decode b_Ch_ofTruths 26 = .ok (.getfield 79, 3) := by decide +kernel
theorem d_Ch_ofTruths_29 : decode b_Ch_ofTruths 29 = .ok (.iconst 5, 1) := by decide +kernel
theorem d_Ch_ofTruths_30 : decode b_Ch_ofTruths 30 = .ok (.if_icmp .ne 30, 3) := by decide +kernel
theorem d_Ch_ofTruths_33 : decode b_Ch_ofTruths 33 = .ok (.aload_n 1, 1) := by decide +kernel
theorem d_Ch_ofTruths_34 : decode b_Ch_ofTruths 34 = .ok (.iload 4, 2) := by decide +kernel
theorem d_Ch_ofTruths_36 : decode b_Ch_ofTruths 36 = .ok (.invokevirtual 90, 3) := by decide +kernel
theorem d_Ch_ofTruths_39 : decode b_Ch_ofTruths 39 = .ok (.iload_n 2, 1) := by decide +kernel
theorem d_Ch_ofTruths_40 : decode b_Ch_ofTruths 40 = .ok (.aload 5, 2) := by decide +kernel
theorem d_Ch_ofTruths_42 : decode b_Ch_ofTruths 42 = .ok (.iconst 0, 1) := by decide +kernel
theorem d_Ch_ofTruths_43 : decode b_Ch_ofTruths 43 = .ok (.invokestatic 94, 3) := by decide +kernel
theorem d_Ch_ofTruths_46 : decode b_Ch_ofTruths 46 = .ok (.iadd, 1) := by decide +kernel
theorem d_Ch_ofTruths_47 : decode b_Ch_ofTruths 47 = .ok (.istore_n 2, 1) := by decide +kernel
theorem d_Ch_ofTruths_48 : decode b_Ch_ofTruths 48 = .ok (.iload_n 3, 1) := by decide +kernel
theorem d_Ch_ofTruths_49 : decode b_Ch_ofTruths 49 = .ok (.aload 5, 2) := by decide +kernel
theorem d_Ch_ofTruths_51 : decode b_Ch_ofTruths 51 = .ok (.iconst 1, 1) := by decide +kernel
theorem d_Ch_ofTruths_52 : decode b_Ch_ofTruths 52 = .ok (.invokestatic 94, 3) := by decide +kernel
theorem d_Ch_ofTruths_55 : decode b_Ch_ofTruths 55 = .ok (.iadd, 1) := by decide +kernel
theorem d_Ch_ofTruths_56 : decode b_Ch_ofTruths 56 = .ok (.istore_n 3, 1) := by decide +kernel
theorem d_Ch_ofTruths_57 : decode b_Ch_ofTruths 57 = .ok (.goto 23, 3) := by decide +kernel
theorem d_Ch_ofTruths_60 : decode b_Ch_ofTruths 60 = .ok (.iinc 2 1, 3) := by decide +kernel
theorem d_Ch_ofTruths_63 : decode b_Ch_ofTruths 63 = .ok (.iload_n 3, 1) := by decide +kernel
theorem d_Ch_ofTruths_64 : decode b_Ch_ofTruths 64 = .ok (.aload_n 1, 1) := by decide +kernel
theorem d_Ch_ofTruths_65 : decode b_Ch_ofTruths 65 = .ok (.iload 4, 2) := by decide +kernel
theorem d_Ch_ofTruths_67 : decode b_Ch_ofTruths 67 = .ok (.invokevirtual 30, 3) := by decide +kernel
theorem d_Ch_ofTruths_70 : decode b_Ch_ofTruths 70 = .ok (.ifCond .eq 7, 3) := by decide +kernel
theorem d_Ch_ofTruths_73 : decode b_Ch_ofTruths 73 = .ok (.iconst 1, 1) := by decide +kernel
theorem d_Ch_ofTruths_74 : decode b_Ch_ofTruths 74 = .ok (.goto 4, 3) := by decide +kernel
theorem d_Ch_ofTruths_77 : decode b_Ch_ofTruths 77 = .ok (.iconst 0, 1) := by decide +kernel
theorem d_Ch_ofTruths_78 : decode b_Ch_ofTruths 78 = .ok (.iadd, 1) := by decide +kernel
theorem d_Ch_ofTruths_79 : decode b_Ch_ofTruths 79 = .ok (.istore_n 3, 1) := by decide +kernel
theorem d_Ch_ofTruths_80 : decode b_Ch_ofTruths 80 = .ok (.iinc 4 1, 3) := by decide +kernel
theorem d_Ch_ofTruths_83 : decode b_Ch_ofTruths 83 = .ok (.goto (-76), 3) := by decide +kernel
theorem d_Ch_ofTruths_86 : decode b_Ch_ofTruths 86 = .ok (.iload_n 2, 1) := by decide +kernel
theorem d_Ch_ofTruths_87 : decode b_Ch_ofTruths 87 = .ok (.ifCond .ne 8, 3) := by decide +kernel
theorem d_Ch_ofTruths_90 : decode b_Ch_ofTruths 90 = .ok (.iconst 3, 1) := by decide +kernel
theorem d_Ch_ofTruths_91 : decode b_Ch_ofTruths 91 = .ok (.invokestatic 40, 3) := by decide +kernel
theorem d_Ch_ofTruths_94 : decode b_Ch_ofTruths 94 = .ok (.areturn, 1) := by decide +kernel
theorem d_Ch_ofTruths_95 : decode b_Ch_ofTruths 95 = .ok (.iload_n 0, 1) := by decide +kernel
theorem d_Ch_ofTruths_96 : decode b_Ch_ofTruths 96 = .ok (.lookupswitch 55 #[(39, 28), (40, 42)], 28) := by decide +kernel
theorem d_Ch_ofTruths_124 : decode b_Ch_ofTruths 124 = .ok (.iload_n 3, 1) := by decide +kernel
theorem d_Ch_ofTruths_125 : decode b_Ch_ofTruths 125 = .ok (.iload_n 2, 1) := by decide +kernel
theorem d_Ch_ofTruths_126 : decode b_Ch_ofTruths 126 = .ok (.if_icmp .ne 7, 3) := by decide +kernel
theorem d_Ch_ofTruths_129 : decode b_Ch_ofTruths 129 = .ok (.iconst 1, 1) := by decide +kernel
theorem d_Ch_ofTruths_130 : decode b_Ch_ofTruths 130 = .ok (.goto 4, 3) := by decide +kernel
theorem d_Ch_ofTruths_133 : decode b_Ch_ofTruths 133 = .ok (.iconst 0, 1) := by decide +kernel
theorem d_Ch_ofTruths_134 : decode b_Ch_ofTruths 134 = .ok (.invokestatic 34, 3) := by decide +kernel
theorem d_Ch_ofTruths_137 : decode b_Ch_ofTruths 137 = .ok (.areturn, 1) := by decide +kernel
theorem d_Ch_ofTruths_138 : decode b_Ch_ofTruths 138 = .ok (.iload_n 3, 1) := by decide +kernel
theorem d_Ch_ofTruths_139 : decode b_Ch_ofTruths 139 = .ok (.ifCond .le 7, 3) := by decide +kernel
theorem d_Ch_ofTruths_142 : decode b_Ch_ofTruths 142 = .ok (.iconst 1, 1) := by decide +kernel
theorem d_Ch_ofTruths_143 : decode b_Ch_ofTruths 143 = .ok (.goto 4, 3) := by decide +kernel
theorem d_Ch_ofTruths_146 : decode b_Ch_ofTruths 146 = .ok (.iconst 0, 1) := by decide +kernel
theorem d_Ch_ofTruths_147 : decode b_Ch_ofTruths 147 = .ok (.invokestatic 34, 3) := by decide +kernel
theorem d_Ch_ofTruths_150 : decode b_Ch_ofTruths 150 = .ok (.areturn, 1) := by decide +kernel
theorem d_Ch_ofTruths_151 : decode b_Ch_ofTruths 151 = .ok (.iload_n 3, 1) := by decide +kernel
theorem d_Ch_ofTruths_152 : decode b_Ch_ofTruths 152 = .ok (.iconst 2, 1) := by decide +kernel
theorem d_Ch_ofTruths_153 : decode b_Ch_ofTruths 153 = .ok (.irem, 1) := by decide +kernel
theorem d_Ch_ofTruths_154 : decode b_Ch_ofTruths 154 = .ok (.iconst 1, 1) := by decide +kernel
theorem d_Ch_ofTruths_155 : decode b_Ch_ofTruths 155 = .ok (.if_icmp .ne 7, 3) := by decide +kernel
theorem d_Ch_ofTruths_158 : decode b_Ch_ofTruths 158 = .ok (.iconst 1, 1) := by decide +kernel
theorem d_Ch_ofTruths_159 : decode b_Ch_ofTruths 159 = .ok (.goto 4, 3) := by decide +kernel
theorem d_Ch_ofTruths_162 : decode b_Ch_ofTruths 162 = .ok (.iconst 0, 1) := by decide +kernel
theorem d_Ch_ofTruths_163 : decode b_Ch_ofTruths 163 = .ok (.invokestatic 34, 3) := by decide +kernel
theorem d_Ch_ofTruths_166 : decode b_Ch_ofTruths 166 = .ok (.areturn, 1) := by decide +kernel
theorem p_Ch_ofTruths_b163 (d : Nat)  (s0 : Int32) (h : gk_H) : gk_P gw_R (d + 6) y_Ch_ofTruths b_Ch_ofTruths 6 (some (.object "ValueAlgebra$Value")) [] (f_Ch_ofTruths_b163  s0 h) 163 [] [.int s0] h := by
  unfold f_Ch_ofTruths_b163
  refine gk_callS (pc := 163) (d := (d + 5)) (w' := gv_R) (as := [.int s0]) (n := 1) d_Ch_ofTruths_163 rfl rfl (Nat.le_of_ble_eq_true rfl) tw_1310 tw_739 tw_97 cw_Va_ofTruth hy_Va_ofTruth (Nat.le_of_ble_eq_true rfl) (p_Va_ofTruth (d + 3) s0 h) fun x1 h1 => ?_
  exact gk_aret (pc := 166) rfl d_Ch_ofTruths_166 rfl (Or.inl ⟨_, rfl⟩)
theorem p_Ch_ofTruths_b134 (d : Nat)  (s0 : Int32) (h : gk_H) : gk_P gw_R (d + 6) y_Ch_ofTruths b_Ch_ofTruths 6 (some (.object "ValueAlgebra$Value")) [] (f_Ch_ofTruths_b134  s0 h) 134 [] [.int s0] h := by
  unfold f_Ch_ofTruths_b134
  refine gk_callS (pc := 134) (d := (d + 5)) (w' := gv_R) (as := [.int s0]) (n := 1) d_Ch_ofTruths_134 rfl rfl (Nat.le_of_ble_eq_true rfl) tw_1310 tw_739 tw_97 cw_Va_ofTruth hy_Va_ofTruth (Nat.le_of_ble_eq_true rfl) (p_Va_ofTruth (d + 3) s0 h) fun x1 h1 => ?_
  exact gk_aret (pc := 137) rfl d_Ch_ofTruths_137 rfl (Or.inl ⟨_, rfl⟩)
theorem p_Ch_ofTruths_b147 (d : Nat)  (s0 : Int32) (h : gk_H) : gk_P gw_R (d + 6) y_Ch_ofTruths b_Ch_ofTruths 6 (some (.object "ValueAlgebra$Value")) [] (f_Ch_ofTruths_b147  s0 h) 147 [] [.int s0] h := by
  unfold f_Ch_ofTruths_b147
  refine gk_callS (pc := 147) (d := (d + 5)) (w' := gv_R) (as := [.int s0]) (n := 1) d_Ch_ofTruths_147 rfl rfl (Nat.le_of_ble_eq_true rfl) tw_1310 tw_739 tw_97 cw_Va_ofTruth hy_Va_ofTruth (Nat.le_of_ble_eq_true rfl) (p_Va_ofTruth (d + 3) s0 h) fun x1 h1 => ?_
  exact gk_aret (pc := 150) rfl d_Ch_ofTruths_150 rfl (Or.inl ⟨_, rfl⟩)
theorem p_Ch_ofTruths_b80 (d : Nat) (b7 : Int32 → Option Nat → Int32 → Int32 → Int32 → gk_H → Option ((Option Nat) × gk_H)) (q7 : ∀ (v0 : Int32) (v1 : Option Nat) (v2 : Int32) (v3 : Int32) (v4 : Int32) (h : gk_H), gk_P gw_R (d + 6) y_Ch_ofTruths b_Ch_ofTruths 6 (some (.object "ValueAlgebra$Value")) [] (b7 v0 v1 v2 v3 v4 h) 7 [(0, .int v0), (1, va_rf v1), (2, .int v2), (3, .int v3), (4, .int v4)] [] h) (v0 : Int32) (v1 : Option Nat) (v2 : Int32) (v3 : Int32) (v4 : Int32) (h : gk_H) : gk_P gw_R (d + 6) y_Ch_ofTruths b_Ch_ofTruths 6 (some (.object "ValueAlgebra$Value")) [] (f_Ch_ofTruths_b80 b7 v0 v1 v2 v3 v4 h) 80 [(0, .int v0), (1, va_rf v1), (2, .int v2), (3, .int v3), (4, .int v4)] [] h := by
  unfold f_Ch_ofTruths_b80
  refine gk_iincN (pc := 80) 4 (1 : Int32) (L' := fun x1 => [(4, .int x1), (0, .int v0), (1, va_rf v1), (2, .int v2), (3, .int v3)]) d_Ch_ofTruths_80 rfl rfl (Nat.le_of_ble_eq_true rfl) (fun _ => rfl) fun x1 => ?_
  refine gk_goto (pc := 83) 7 d_Ch_ofTruths_83 rfl ?_
  refine gk_weak [1, 2, 3, 4, 0] (L' := [(0, .int v0), (1, va_rf v1), (2, .int v2), (3, .int v3), (4, .int x1)]) rfl ?_
  exact q7 v0 v1 v2 v3 x1 h
theorem p_Ch_ofTruths_b78 (d : Nat) (b7 : Int32 → Option Nat → Int32 → Int32 → Int32 → gk_H → Option ((Option Nat) × gk_H)) (q7 : ∀ (v0 : Int32) (v1 : Option Nat) (v2 : Int32) (v3 : Int32) (v4 : Int32) (h : gk_H), gk_P gw_R (d + 6) y_Ch_ofTruths b_Ch_ofTruths 6 (some (.object "ValueAlgebra$Value")) [] (b7 v0 v1 v2 v3 v4 h) 7 [(0, .int v0), (1, va_rf v1), (2, .int v2), (3, .int v3), (4, .int v4)] [] h) (v0 : Int32) (v1 : Option Nat) (v2 : Int32) (v4 : Int32) (s0 : Int32) (s1 : Int32) (h : gk_H) : gk_P gw_R (d + 6) y_Ch_ofTruths b_Ch_ofTruths 6 (some (.object "ValueAlgebra$Value")) [] (f_Ch_ofTruths_b78 b7 v0 v1 v2 v4 s0 s1 h) 78 [(0, .int v0), (1, va_rf v1), (2, .int v2), (4, .int v4)] [.int s1, .int s0] h := by
  unfold f_Ch_ofTruths_b78
  refine gk_iadd (pc := 78) d_Ch_ofTruths_78 ?_
  refine gk_topI (pc := 79) fun x1 => ?_
  refine gk_istore_n (pc := 79) (L' := [(3, .int x1), (0, .int v0), (1, va_rf v1), (2, .int v2), (4, .int v4)]) d_Ch_ofTruths_79 (Nat.le_of_ble_eq_true rfl) rfl ?_
  refine gk_weak [1, 2, 3, 0, 4] (L' := [(0, .int v0), (1, va_rf v1), (2, .int v2), (3, .int x1), (4, .int v4)]) rfl ?_
  exact p_Ch_ofTruths_b80 d b7 q7 v0 v1 v2 x1 v4 h
theorem p_Ch_ofTruths_b7 (d : Nat)  : ∀ (fu : Nat) (v0 : Int32) (v1 : Option Nat) (v2 : Int32) (v3 : Int32) (v4 : Int32) (h : gk_H), gk_P gw_R (d + 6) y_Ch_ofTruths b_Ch_ofTruths 6 (some (.object "ValueAlgebra$Value")) [] (f_Ch_ofTruths_b7  fu v0 v1 v2 v3 v4 h) 7 [(0, .int v0), (1, va_rf v1), (2, .int v2), (3, .int v3), (4, .int v4)] [] h := by
  intro fu
  induction fu with
  | zero => intros; exact gk_none
  | succ fu q7 =>
    intro v0 v1 v2 v3 v4 h
    rw [f_Ch_ofTruths_b7]
    refine gk_iload (pc := 7) 4 d_Ch_ofTruths_7 rfl ?_
    refine gk_aload_n (pc := 9) 1 d_Ch_ofTruths_9 rfl ?_
    refine gk_callV (pc := 10) (d := (d + 5)) (w' := gv_I) (as := []) (n := 0) 4 d_Ch_ofTruths_10 rfl rfl rfl rfl (Nat.le_of_ble_eq_true rfl) tw_1309 tw_1030 tw_1031 tw_96 cw_Ar_howMany hy_Ar_howMany (Nat.le_of_ble_eq_true rfl) (p_Ar_howMany (d + 5) v1 h) fun x1 h1 => ?_
    refine gk_icmp_ge (pc := 13) 86 d_Ch_ofTruths_13 rfl (fun _ => ?_) (fun _ => ?_)
    · refine gk_iload_n (pc := 86) 2 d_Ch_ofTruths_86 rfl ?_
      refine gk_if_ne (pc := 87) 95 d_Ch_ofTruths_87 rfl (fun _ => ?_) (fun _ => ?_)
      · refine gk_iconst (pc := 90) (3 : Int32) d_Ch_ofTruths_90 rfl ?_
        refine gk_callS (pc := 91) (d := (d + 5)) (w' := gv_R) (as := [.int (3 : Int32)]) (n := 1) d_Ch_ofTruths_91 rfl rfl (Nat.le_of_ble_eq_true rfl) tw_1318 tw_236 tw_97 cw_Va_ofError hy_Va_ofError (Nat.le_of_ble_eq_true rfl) (p_Va_ofError (d + 3) (3 : Int32) h1) fun x2 h2 => ?_
        exact gk_aret (pc := 94) rfl d_Ch_ofTruths_94 rfl (Or.inl ⟨_, rfl⟩)
      · refine gk_iload_n (pc := 95) 0 d_Ch_ofTruths_95 rfl ?_
        refine gk_ite (fun z96_0 => ?_) (fun z96_0 => ?_)
        · refine gk_lsw (pc := 96) 124 d_Ch_ofTruths_96 (by decide) (by rw [z96_0]) rfl ?_
          refine gk_iload_n (pc := 124) 3 d_Ch_ofTruths_124 rfl ?_
          refine gk_iload_n (pc := 125) 2 d_Ch_ofTruths_125 rfl ?_
          refine gk_icmp_ne (pc := 126) 133 d_Ch_ofTruths_126 rfl (fun _ => ?_) (fun _ => ?_)
          · refine gk_iconst (pc := 129) (1 : Int32) d_Ch_ofTruths_129 rfl ?_
            refine gk_goto (pc := 130) 134 d_Ch_ofTruths_130 rfl ?_
            refine gk_weak [] (L' := []) rfl ?_
            exact p_Ch_ofTruths_b134 d (1 : Int32) h1
          · refine gk_iconst (pc := 133) (0 : Int32) d_Ch_ofTruths_133 rfl ?_
            refine gk_weak [] (L' := []) rfl ?_
            exact p_Ch_ofTruths_b134 d (0 : Int32) h1
        ·
          refine gk_ite (fun z96_1 => ?_) (fun z96_1 => ?_)
          · refine gk_lsw (pc := 96) 138 d_Ch_ofTruths_96 (by decide) (by rw [z96_1]) rfl ?_
            refine gk_iload_n (pc := 138) 3 d_Ch_ofTruths_138 rfl ?_
            refine gk_if_le (pc := 139) 146 d_Ch_ofTruths_139 rfl (fun _ => ?_) (fun _ => ?_)
            · refine gk_iconst (pc := 146) (0 : Int32) d_Ch_ofTruths_146 rfl ?_
              refine gk_weak [] (L' := []) rfl ?_
              exact p_Ch_ofTruths_b147 d (0 : Int32) h1
            · refine gk_iconst (pc := 142) (1 : Int32) d_Ch_ofTruths_142 rfl ?_
              refine gk_goto (pc := 143) 147 d_Ch_ofTruths_143 rfl ?_
              refine gk_weak [] (L' := []) rfl ?_
              exact p_Ch_ofTruths_b147 d (1 : Int32) h1
          ·
            refine gk_lsw (pc := 96) 151 d_Ch_ofTruths_96 (by decide) (by show Op.lookupswitch.offset [(39, 28), (40, 42)] _ _ = _; rw [lv_osw z96_0 (by decide), lv_osw z96_1 (by decide)]) rfl ?_
            refine gk_iload_n (pc := 151) 3 d_Ch_ofTruths_151 rfl ?_
            refine gk_iconst (pc := 152) (2 : Int32) d_Ch_ofTruths_152 rfl ?_
            refine gk_irem (pc := 153) (by decide) d_Ch_ofTruths_153 ?_
            refine gk_iconst (pc := 154) (1 : Int32) d_Ch_ofTruths_154 rfl ?_
            refine gk_icmp_ne (pc := 155) 162 d_Ch_ofTruths_155 rfl (fun _ => ?_) (fun _ => ?_)
            · refine gk_iconst (pc := 158) (1 : Int32) d_Ch_ofTruths_158 rfl ?_
              refine gk_goto (pc := 159) 163 d_Ch_ofTruths_159 rfl ?_
              refine gk_weak [] (L' := []) rfl ?_
              exact p_Ch_ofTruths_b163 d (1 : Int32) h1
            · refine gk_iconst (pc := 162) (0 : Int32) d_Ch_ofTruths_162 rfl ?_
              refine gk_weak [] (L' := []) rfl ?_
              exact p_Ch_ofTruths_b163 d (0 : Int32) h1
    · refine gk_aload_n (pc := 16) 1 d_Ch_ofTruths_16 rfl ?_
      refine gk_iload (pc := 17) 4 d_Ch_ofTruths_17 rfl ?_
      refine gk_callV (pc := 19) (d := (d + 5)) (w' := gv_R) (as := [.int v4]) (n := 1) 4 d_Ch_ofTruths_19 rfl rfl rfl rfl (Nat.le_of_ble_eq_true rfl) tw_1308 tw_1034 tw_1035 tw_96 cw_Ar_raw hy_Ar_raw (Nat.le_of_ble_eq_true rfl) (p_Ar_raw (d + 5) v1 v4 h1) fun x3 h3 => ?_
      refine gk_astore (pc := 22) (L' := [(5, va_rf x3), (0, .int v0), (1, va_rf v1), (2, .int v2), (3, .int v3), (4, .int v4)]) d_Ch_ofTruths_22 (Nat.le_of_ble_eq_true rfl) rfl ?_
      refine gk_aload (pc := 24) 0 d_Ch_ofTruths_24 rfl ?_
      refine gk_getI (pc := 26) 2 0 d_Ch_ofTruths_26 rfl (Nat.le_of_ble_eq_true rfl) tw_187 fun x4 => ?_
      refine gk_iconst (pc := 29) (5 : Int32) d_Ch_ofTruths_29 rfl ?_
      refine gk_icmp_ne (pc := 30) 60 d_Ch_ofTruths_30 rfl (fun _ => ?_) (fun _ => ?_)
      · refine gk_aload_n (pc := 33) 2 d_Ch_ofTruths_33 rfl ?_
        refine gk_iload (pc := 34) 5 d_Ch_ofTruths_34 rfl ?_
        refine gk_callV (pc := 36) (d := (d + 5)) (w' := gv_V) (as := [.int v4]) (n := 1) 4 d_Ch_ofTruths_36 rfl rfl rfl rfl (Nat.le_of_ble_eq_true rfl) tw_1322 tw_1057 tw_1058 tw_96 cw_Ar_blameCells hy_Ar_blameCells (Nat.le_of_ble_eq_true rfl) (p_Ar_blameCells (d + 4) v1 v4 h3) fun _ h4 => ?_
        refine gk_iload_n (pc := 39) 3 d_Ch_ofTruths_39 rfl ?_
        refine gk_aload (pc := 40) 0 d_Ch_ofTruths_40 rfl ?_
        refine gk_iconst (pc := 42) (0 : Int32) d_Ch_ofTruths_42 rfl ?_
        refine gk_callS (pc := 43) (d := (d + 5)) (w' := gv_I) (as := [va_rf x3, .int (0 : Int32)]) (n := 2) d_Ch_ofTruths_43 rfl rfl (Nat.le_of_ble_eq_true rfl) tw_1323 tw_1324 tw_121 cw_Ch_truthCells hy_Ch_truthCells (Nat.le_of_ble_eq_true rfl) (p_Ch_truthCells (d + 4) x3 (0 : Int32) h4) fun x5 h5 => ?_
        refine gk_iadd (pc := 46) d_Ch_ofTruths_46 ?_
        refine gk_topI (pc := 47) fun x6 => ?_
        refine gk_istore_n (pc := 47) (L' := [(2, .int x6), (5, va_rf x3), (0, .int v0), (1, va_rf v1), (3, .int v3), (4, .int v4)]) d_Ch_ofTruths_47 (Nat.le_of_ble_eq_true rfl) (by simp [gk_s1, gk_s2, gk_cat_rf, gk_catI, gk_catJ, gk_catD] <;> decide) ?_
        refine gk_iload_n (pc := 48) 4 d_Ch_ofTruths_48 rfl ?_
        refine gk_aload (pc := 49) 1 d_Ch_ofTruths_49 rfl ?_
        refine gk_iconst (pc := 51) (1 : Int32) d_Ch_ofTruths_51 rfl ?_
        refine gk_callS (pc := 52) (d := (d + 5)) (w' := gv_I) (as := [va_rf x3, .int (1 : Int32)]) (n := 2) d_Ch_ofTruths_52 rfl rfl (Nat.le_of_ble_eq_true rfl) tw_1323 tw_1324 tw_121 cw_Ch_truthCells hy_Ch_truthCells (Nat.le_of_ble_eq_true rfl) (p_Ch_truthCells (d + 4) x3 (1 : Int32) h5) fun x7 h6 => ?_
        refine gk_iadd (pc := 55) d_Ch_ofTruths_55 ?_
        refine gk_topI (pc := 56) fun x8 => ?_
        refine gk_istore_n (pc := 56) (L' := [(3, .int x8), (2, .int x6), (5, va_rf x3), (0, .int v0), (1, va_rf v1), (4, .int v4)]) d_Ch_ofTruths_56 (Nat.le_of_ble_eq_true rfl) rfl ?_
        refine gk_goto (pc := 57) 80 d_Ch_ofTruths_57 rfl ?_
        refine gk_weak [3, 4, 1, 0, 5] (L' := [(0, .int v0), (1, va_rf v1), (2, .int x6), (3, .int x8), (4, .int v4)]) rfl ?_
        exact p_Ch_ofTruths_b80 d (f_Ch_ofTruths_b7 fu) q7 v0 v1 x6 x8 v4 h6
      · refine gk_iincN (pc := 60) 3 (1 : Int32) (L' := fun x9 => [(2, .int x9), (5, va_rf x3), (0, .int v0), (1, va_rf v1), (3, .int v3), (4, .int v4)]) d_Ch_ofTruths_60 rfl rfl (Nat.le_of_ble_eq_true rfl) (fun _ => by simp [gk_s1, gk_cat_rf, gk_catI, gk_catJ, gk_catD] <;> decide) fun x9 => ?_
        refine gk_iload_n (pc := 63) 4 d_Ch_ofTruths_63 rfl ?_
        refine gk_aload_n (pc := 64) 3 d_Ch_ofTruths_64 rfl ?_
        refine gk_iload (pc := 65) 5 d_Ch_ofTruths_65 rfl ?_
        refine gk_callV (pc := 67) (d := (d + 5)) (w' := gv_I) (as := [.int v4]) (n := 1) 4 d_Ch_ofTruths_67 rfl rfl rfl rfl (Nat.le_of_ble_eq_true rfl) tw_1303 tw_1304 tw_1305 tw_96 cw_Ar_truth hy_Ar_truth (Nat.le_of_ble_eq_true rfl) (p_Ar_truth d v1 v4 h3) fun x10 h7 => ?_
        refine gk_if_eq (pc := 70) 77 d_Ch_ofTruths_70 rfl (fun _ => ?_) (fun _ => ?_)
        · refine gk_iconst (pc := 77) (0 : Int32) d_Ch_ofTruths_77 rfl ?_
          refine gk_weak [2, 3, 0, 5] (L' := [(0, .int v0), (1, va_rf v1), (2, .int x9), (4, .int v4)]) rfl ?_
          exact p_Ch_ofTruths_b78 d (f_Ch_ofTruths_b7 fu) q7 v0 v1 x9 v4 v3 (0 : Int32) h7
        · refine gk_iconst (pc := 73) (1 : Int32) d_Ch_ofTruths_73 rfl ?_
          refine gk_goto (pc := 74) 78 d_Ch_ofTruths_74 rfl ?_
          refine gk_weak [2, 3, 0, 5] (L' := [(0, .int v0), (1, va_rf v1), (2, .int x9), (4, .int v4)]) rfl ?_
          exact p_Ch_ofTruths_b78 d (f_Ch_ofTruths_b7 fu) q7 v0 v1 x9 v4 v3 (1 : Int32) h7
theorem w_Ch_ofTruths (d : Nat) (a0 : Int32) (a1 : Option Nat) (h : gk_H) : gk_P gw_R (d + 6) y_Ch_ofTruths b_Ch_ofTruths 6 (some (.object "ValueAlgebra$Value")) [] (f_Ch_ofTruths a0 a1 h) 0 [(0, .int a0), (1, va_rf a1)] [] h := by
  unfold f_Ch_ofTruths
  refine gk_iconst (pc := 0) (0 : Int32) d_Ch_ofTruths_0 rfl ?_
  refine gk_istore_n (pc := 1) (L' := [(2, .int (0 : Int32)), (0, .int a0), (1, va_rf a1)]) d_Ch_ofTruths_1 (Nat.le_of_ble_eq_true rfl) (by simp [gk_s1, gk_s2, gk_cat_rf, gk_catI, gk_catJ, gk_catD] <;> decide) ?_
  refine gk_iconst (pc := 2) (0 : Int32) d_Ch_ofTruths_2 rfl ?_
  refine gk_istore_n (pc := 3) (L' := [(3, .int (0 : Int32)), (2, .int (0 : Int32)), (0, .int a0), (1, va_rf a1)]) d_Ch_ofTruths_3 (Nat.le_of_ble_eq_true rfl) rfl ?_
  refine gk_iconst (pc := 4) (0 : Int32) d_Ch_ofTruths_4 rfl ?_
  refine gk_istore (pc := 5) (L' := [(4, .int (0 : Int32)), (3, .int (0 : Int32)), (2, .int (0 : Int32)), (0, .int a0), (1, va_rf a1)]) d_Ch_ofTruths_5 (Nat.le_of_ble_eq_true rfl) rfl ?_
  refine gk_weak [3, 4, 2, 1, 0] (L' := [(0, .int a0), (1, va_rf a1), (2, .int (0 : Int32)), (3, .int (0 : Int32)), (4, .int (0 : Int32))]) rfl ?_
  exact p_Ch_ofTruths_b7 d gk_F a0 a1 (0 : Int32) (0 : Int32) (0 : Int32) h
theorem p_Ch_ofTruths (d : Nat) (a0 : Int32) (a1 : Option Nat) (h : gk_H) : ∀ r h1, f_Ch_ofTruths a0 a1 h = some (r, h1) → gk_M (d + 6) y_Ch_ofTruths b_Ch_ofTruths 6 (some (.object "ValueAlgebra$Value")) [.int a0, va_rf a1] h (.inl (gv_R r)) h1 :=
  fun r h1 e => gk_M_of2 (by decide +kernel) (by simp [lv_args, gk_cat_rf, gk_catI, gk_catJ, gk_catD, gv_V, gv_I, gv_J, gv_D, gv_R]) (by simp [lg_sl, gk_cat_rf, gk_catI, gk_catJ, gk_catD, gv_V, gv_I, gv_J, gv_D, gv_R]) (w_Ch_ofTruths d a0 a1 h r h1 e)
