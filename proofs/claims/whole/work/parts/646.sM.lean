theorem d_M_divisors_0 : decode b_M_divisors 0 = .ok (.lconst 0, 1) := by decide +kernel
theorem d_M_divisors_1 : decode b_M_divisors 1 = .ok (.lstore 4, 2) := by decide +kernel
theorem d_M_divisors_3 : decode b_M_divisors 3 = .ok (.lconst 1, 1) := by decide +kernel
theorem d_M_divisors_4 : decode b_M_divisors 4 = .ok (.lstore 6, 2) := by decide +kernel
theorem d_M_divisors_6 : decode b_M_divisors 6 = .ok (.iconst 0, 1) := by decide +kernel
theorem d_M_divisors_7 : decode b_M_divisors 7 = .ok (.istore 8, 2) := by decide +kernel
theorem d_M_divisors_9 : decode b_M_divisors 9 = .ok (.iconst 0, 1) := by decide +kernel
theorem d_M_divisors_10 : decode b_M_divisors 10 = .ok (.istore 9, 2) := by decide +kernel
theorem d_M_divisors_12 : decode b_M_divisors 12 = .ok (.iconst 0, 1) := by decide +kernel
theorem d_M_divisors_13 : decode b_M_divisors 13 = .ok (.istore 10, 2) := by decide +kernel
theorem d_M_divisors_15 : decode b_M_divisors 15 = .ok (.iload_n 2, 1) := by decide +kernel
theorem d_M_divisors_16 : decode b_M_divisors 16 = .ok (.istore 11, 2) := by decide +kernel
theorem d_M_divisors_18 : decode b_M_divisors 18 = .ok (.iload 11, 2) := by decide +kernel
theorem d_M_divisors_20 : decode b_M_divisors 20 = .ok (.iload_n 2, 1) := by decide +kernel
theorem d_M_divisors_21 : decode b_M_divisors 21 = .ok (.iload_n 3, 1) := by decide +kernel
theorem d_M_divisors_22 : decode b_M_divisors 22 = .ok (.iadd, 1) := by decide +kernel
theorem d_M_divisors_23 : decode b_M_divisors 23 = .ok (.if_icmp .ge 134, 3) := by decide +kernel
theorem d_M_divisors_26 : decode b_M_divisors 26 = .ok (.aload_n 0, 1) := by decide +kernel
theorem d_M_divisors_27 : decode b_M_divisors 27 = .ok (.iload 11, 2) := by decide +kernel
theorem d_M_divisors_29 : decode b_M_divisors 29 = .ok (.invokevirtual 296, 3) := by decide +kernel
theorem d_M_divisors_32 : decode b_M_divisors 32 = .ok (.lstore 12, 2) := by decide +kernel
theorem d_M_divisors_34 : decode b_M_divisors 34 = .ok (.iload 8, 2) := by decide +kernel
theorem d_M_divisors_36 : decode b_M_divisors 36 = .ok (.ifCond .ne 10, 3) := by decide +kernel
theorem d_M_divisors_39 : decode b_M_divisors 39 = .ok (.lload 12, 2) := by decide +kernel
theorem d_M_divisors_41 : decode b_M_divisors 41 = .ok (.lconst 0, 1) := by decide +kernel
theorem d_M_divisors_42 : decode b_M_divisors 42 = .ok (.lcmp, 1) := by decide +kernel
theorem d_M_divisors_43 : decode b_M_divisors 43 = .ok (.ifCond .ge 7, 3) := by decide +kernel
theorem d_M_divisors_46 : decode b_M_divisors 46 = .ok (.iconst 1, 1) := by decide +kernel
theorem d_M_divisors_47 : decode b_M_divisors 47 = .ok (.goto 4, 3) := by decide +kernel
theorem d_M_divisors_50 : decode b_M_divisors 50 = .ok (.iconst 0, 1) := by decide +kernel
theorem d_M_divisors_51 : decode b_M_divisors 51 = .ok (.istore 8, 2) := by decide +kernel
theorem d_M_divisors_53 : decode b_M_divisors 53 = .ok (.iload 9, 2) := by decide +kernel
theorem d_M_divisors_55 : decode b_M_divisors 55 = .ok (.ifCond .ne 10, 3) := by decide +kernel
theorem d_M_divisors_58 : decode b_M_divisors 58 = .ok (.lload 12, 2) := by decide +kernel
theorem d_M_divisors_60 : decode b_M_divisors 60 = .ok (.lconst 0, 1) := by decide +kernel
theorem d_M_divisors_61 : decode b_M_divisors 61 = .ok (.lcmp, 1) := by decide +kernel
theorem d_M_divisors_62 : decode b_M_divisors 62 = .ok (.ifCond .ne 7, 3) := by decide +kernel
theorem d_M_divisors_65 : decode b_M_divisors 65 = .ok (.iconst 1, 1) := by decide +kernel
theorem d_M_divisors_66 : decode b_M_divisors 66 = .ok (.goto 4, 3) := by decide +kernel
theorem d_M_divisors_69 : decode b_M_divisors 69 = .ok (.iconst 0, 1) := by decide +kernel
theorem d_M_divisors_70 : decode b_M_divisors 70 = .ok (.istore 9, 2) := by decide +kernel
theorem d_M_divisors_72 : decode b_M_divisors 72 = .ok (.aload_n 0, 1) := by decide +kernel
theorem d_M_divisors_73 : decode b_M_divisors 73 = .ok (.getfield 62, 3) := by decide +kernel
theorem d_M_divisors_76 : decode b_M_divisors 76 = .ok (.ifCond .ne 75, 3) := by decide +kernel
theorem d_M_divisors_79 : decode b_M_divisors 79 = .ok (.iload 8, 2) := by decide +kernel
theorem d_M_divisors_81 : decode b_M_divisors 81 = .ok (.ifCond .ne 70, 3) := by decide +kernel
theorem d_M_divisors_84 : decode b_M_divisors 84 = .ok (.lload 4, 2) := by decide +kernel
theorem d_M_divisors_86 : decode b_M_divisors 86 = .ok (.lload 12, 2) := by decide +kernel
theorem d_M_divisors_88 : decode b_M_divisors 88 = .ok (.invokestatic 354, 3) := by decide +kernel
theorem d_M_divisors_91 : decode b_M_divisors 91 = .ok (.lstore 4, 2) := by decide +kernel
theorem d_M_divisors_93 : decode b_M_divisors 93 = .ok (.iload 9, 2) := by decide +kernel
theorem d_M_divisors_95 : decode b_M_divisors 95 = .ok (.ifCond .ne 56, 3) := by decide +kernel
theorem d_M_divisors_98 : decode b_M_divisors 98 = .ok (.iload 10, 2) := by decide +kernel
theorem d_M_divisors_100 : decode b_M_divisors 100 = .ok (.ifCond .ne 51, 3) := by decide +kernel
theorem d_M_divisors_103 : decode b_M_divisors 103 = .ok (.lload 12, 2) := by decide +kernel
theorem d_M_divisors_105 : decode b_M_divisors 105 = .ok (.lload 6, 2) := by decide +kernel
theorem d_M_divisors_107 : decode b_M_divisors 107 = .ok (.lload 12, 2) := by decide +kernel
theorem d_M_divisors_109 : decode b_M_divisors 109 = .ok (.invokestatic 354, 3) := by decide +kernel
theorem d_M_divisors_112 : decode b_M_divisors 112 = .ok (.ldiv, 1) := by decide +kernel
theorem d_M_divisors_113 : decode b_M_divisors 113 = .ok (.lstore 14, 2) := by decide +kernel
theorem d_M_divisors_115 : decode b_M_divisors 115 = .ok (.lload 14, 2) := by decide +kernel
theorem d_M_divisors_117 : decode b_M_divisors 117 = .ok (.ldc2_w 358, 3) := by decide +kernel
theorem d_M_divisors_120 : decode b_M_divisors 120 = .ok (.lload 6, 2) := by decide +kernel
theorem d_M_divisors_122 : decode b_M_divisors 122 = .ok (.ldiv, 1) := by decide +kernel
theorem d_M_divisors_123 : decode b_M_divisors 123 = .ok (.lcmp, 1) := by decide +kernel
theorem d_M_divisors_124 : decode b_M_divisors 124 = .ok (.ifCond .le 7, 3) := by decide +kernel
theorem d_M_divisors_127 : decode b_M_divisors 127 = .ok (.iconst 1, 1) := by decide +kernel
theorem d_M_divisors_128 : decode b_M_divisors 128 = .ok (.goto 4, 3) := by decide +kernel
theorem d_M_divisors_131 : decode b_M_divisors 131 = .ok (.iconst 0, 1) := by decide +kernel
theorem d_M_divisors_132 : decode b_M_divisors 132 = .ok (.istore 10, 2) := by decide +kernel
theorem d_M_divisors_134 : decode b_M_divisors 134 = .ok (.iload 10, 2) := by decide +kernel
theorem d_M_divisors_136 : decode b_M_divisors 136 = .ok (.ifCond .eq 8, 3) := by decide +kernel
theorem d_M_divisors_139 : decode b_M_divisors 139 = .ok (.lload 6, 2) := by decide +kernel
theorem d_M_divisors_141 : decode b_M_divisors 141 = .ok (.goto 8, 3) := by decide +kernel
theorem d_M_divisors_144 : decode b_M_divisors 144 = .ok (.lload 6, 2) := by decide +kernel
theorem d_M_divisors_146 : decode b_M_divisors 146 = .ok (.lload 14, 2) := by decide +kernel
theorem d_M_divisors_148 : decode b_M_divisors 148 = .ok (.lmul, 1) := by decide +kernel
theorem d_M_divisors_149 : decode b_M_divisors 149 = .ok (.lstore 6, 2) := by decide +kernel
theorem d_M_divisors_151 : decode b_M_divisors 151 = .ok (.iinc 11 1, 3) := by decide +kernel
theorem d_M_divisors_154 : decode b_M_divisors 154 = .ok (.goto (-136), 3) := by decide +kernel
theorem d_M_divisors_157 : decode b_M_divisors 157 = .ok (.aload_n 0, 1) := by decide +kernel
theorem d_M_divisors_158 : decode b_M_divisors 158 = .ok (.getfield 62, 3) := by decide +kernel
theorem d_M_divisors_161 : decode b_M_divisors 161 = .ok (.ifCond .ne 14, 3) := by decide +kernel
theorem d_M_divisors_164 : decode b_M_divisors 164 = .ok (.iload 8, 2) := by decide +kernel
theorem d_M_divisors_166 : decode b_M_divisors 166 = .ok (.ifCond .eq 9, 3) := by decide +kernel
theorem d_M_divisors_169 : decode b_M_divisors 169 = .ok (.aload_n 0, 1) := by decide +kernel
theorem d_M_divisors_170 : decode b_M_divisors 170 = .ok (.bipush 6, 2) := by decide +kernel
theorem d_M_divisors_172 : decode b_M_divisors 172 = .ok (.invokevirtual 58, 3) := by decide +kernel
theorem d_M_divisors_175 : decode b_M_divisors 175 = .ok (.aload_n 0, 1) := by decide +kernel
theorem d_M_divisors_176 : decode b_M_divisors 176 = .ok (.getfield 62, 3) := by decide +kernel
theorem d_M_divisors_179 : decode b_M_divisors 179 = .ok (.ifCond .ne 25, 3) := by decide +kernel
theorem d_M_divisors_182 : decode b_M_divisors 182 = .ok (.iload_n 1, 1) := by decide +kernel
theorem d_M_divisors_183 : decode b_M_divisors 183 = .ok (.bipush 26, 2) := by decide +kernel
theorem d_M_divisors_185 : decode b_M_divisors 185 = .ok (.if_icmp .ne 19, 3) := by decide +kernel
theorem d_M_divisors_188 : decode b_M_divisors 188 = .ok (.iload 9, 2) := by decide +kernel
theorem d_M_divisors_190 : decode b_M_divisors 190 = .ok (.ifCond .ne 14, 3) := by decide +kernel
theorem d_M_divisors_193 : decode b_M_divisors 193 = .ok (.iload 10, 2) := by decide +kernel
theorem d_M_divisors_195 : decode b_M_divisors 195 = .ok (.ifCond .eq 9, 3) := by decide +kernel
theorem d_M_divisors_198 : decode b_M_divisors 198 = .ok (.aload_n 0, 1) := by decide +kernel
theorem d_M_divisors_199 : decode b_M_divisors 199 = .ok (.bipush 6, 2) := by decide +kernel
theorem d_M_divisors_201 : decode b_M_divisors 201 = .ok (.invokevirtual 58, 3) := by decide +kernel
theorem d_M_divisors_204 : decode b_M_divisors 204 = .ok (.aload_n 0, 1) := by decide +kernel
theorem d_M_divisors_205 : decode b_M_divisors 205 = .ok (.iload_n 1, 1) := by decide +kernel
theorem d_M_divisors_206 : decode b_M_divisors 206 = .ok (.bipush 25, 2) := by decide +kernel
theorem d_M_divisors_208 : decode b_M_divisors 208 = .ok (.if_icmp .ne 9, 3) := by decide +kernel
theorem d_M_divisors_211 : decode b_M_divisors 211 = .ok (.lload 4, 2) := by decide +kernel
theorem d_M_divisors_213 : decode b_M_divisors 213 = .ok (.l2d, 1) := by decide +kernel
theorem d_M_divisors_214 : decode b_M_divisors 214 = .ok (.goto 15, 3) := by decide +kernel
theorem d_M_divisors_217 : decode b_M_divisors 217 = .ok (.iload 9, 2) := by decide +kernel
theorem d_M_divisors_219 : decode b_M_divisors 219 = .ok (.ifCond .eq 7, 3) := by decide +kernel
theorem d_M_divisors_222 : decode b_M_divisors 222 = .ok (.dconst 0, 1) := by decide +kernel
theorem d_M_divisors_223 : decode b_M_divisors 223 = .ok (.goto 6, 3) := by decide +kernel
theorem d_M_divisors_226 : decode b_M_divisors 226 = .ok (.lload 6, 2) := by decide +kernel
theorem d_M_divisors_228 : decode b_M_divisors 228 = .ok (.l2d, 1) := by decide +kernel
theorem d_M_divisors_229 : decode b_M_divisors 229 = .ok (.invokevirtual 207, 3) := by decide +kernel
theorem d_M_divisors_232 : decode b_M_divisors 232 = .ok (.return_, 1) := by decide +kernel
theorem p_M_divisors_b229 (d : Nat)  (s0 : Option Nat) (s1 : UInt64) (h : gk_H) : gk_P gw_V (d + 5) y_M_divisors b_M_divisors 16 none [] (f_M_divisors_b229  s0 s1 h) 229 [] [.double s1, va_rf s0] h := by
  unfold f_M_divisors_b229
  refine gk_callV (pc := 229) (d := (d + 4)) (w' := gv_V) (as := [.double s1]) (n := 1) 7 d_M_divisors_229 rfl rfl rfl rfl (Nat.le_of_ble_eq_true rfl) tw_1916 tw_1918 tw_38 tw_99 cw_M_answerNumber hy_M_answerNumber (Nat.le_of_ble_eq_true rfl) (p_M_answerNumber (d + 3) s0 s1 h) fun _ h1 => ?_
  exact gk_vret (pc := 232) rfl d_M_divisors_232 rfl
theorem p_M_divisors_b204 (d : Nat)  (v0 : Option Nat) (v1 : Int32) (v4 : Int64) (v6 : Int64) (v9 : Int32) (h : gk_H) : gk_P gw_V (d + 5) y_M_divisors b_M_divisors 16 none [] (f_M_divisors_b204  v0 v1 v4 v6 v9 h) 204 [(0, va_rf v0), (1, .int v1), (4, .long v4), (6, .long v6), (9, .int v9)] [] h := by
  unfold f_M_divisors_b204
  refine gk_aload_n (pc := 204) 0 d_M_divisors_204 rfl ?_
  refine gk_iload_n (pc := 205) 1 d_M_divisors_205 rfl ?_
  refine gk_bipush (pc := 206) (25 : Int32) d_M_divisors_206 rfl ?_
  refine gk_icmp_ne (pc := 208) 217 d_M_divisors_208 rfl (fun _ => ?_) (fun _ => ?_)
  · refine gk_lload (pc := 211) 2 d_M_divisors_211 rfl ?_
    refine gk_l2d (pc := 213) d_M_divisors_213 ?_
    refine gk_goto (pc := 214) 229 d_M_divisors_214 rfl ?_
    refine gk_weak [] (L' := []) rfl ?_
    exact p_M_divisors_b229 d v0 (FP.l2d v4) h
  · refine gk_iload (pc := 217) 4 d_M_divisors_217 rfl ?_
    refine gk_if_eq (pc := 219) 226 d_M_divisors_219 rfl (fun _ => ?_) (fun _ => ?_)
    · refine gk_lload (pc := 226) 3 d_M_divisors_226 rfl ?_
      refine gk_l2d (pc := 228) d_M_divisors_228 ?_
      refine gk_weak [] (L' := []) rfl ?_
      exact p_M_divisors_b229 d v0 (FP.l2d v6) h
    · refine gk_dconst0 (pc := 222) d_M_divisors_222 ?_
      refine gk_goto (pc := 223) 229 d_M_divisors_223 rfl ?_
      refine gk_weak [] (L' := []) rfl ?_
      exact p_M_divisors_b229 d v0 (0x0000000000000000) h
theorem p_M_divisors_b175 (d : Nat)  (v0 : Option Nat) (v1 : Int32) (v4 : Int64) (v6 : Int64) (v9 : Int32) (v10 : Int32) (h : gk_H) : gk_P gw_V (d + 5) y_M_divisors b_M_divisors 16 none [] (f_M_divisors_b175  v0 v1 v4 v6 v9 v10 h) 175 [(0, va_rf v0), (1, .int v1), (4, .long v4), (6, .long v6), (9, .int v9), (10, .int v10)] [] h := by
  unfold f_M_divisors_b175
  refine gk_aload_n (pc := 175) 0 d_M_divisors_175 rfl ?_
  refine gk_getI (pc := 176) 7 11 d_M_divisors_176 rfl (Nat.le_of_ble_eq_true rfl) tw_1656 fun x1 => ?_
  refine gk_if_ne (pc := 179) 204 d_M_divisors_179 rfl (fun _ => ?_) (fun _ => ?_)
  · refine gk_iload_n (pc := 182) 1 d_M_divisors_182 rfl ?_
    refine gk_bipush (pc := 183) (26 : Int32) d_M_divisors_183 rfl ?_
    refine gk_icmp_ne (pc := 185) 204 d_M_divisors_185 rfl (fun _ => ?_) (fun _ => ?_)
    · refine gk_iload (pc := 188) 4 d_M_divisors_188 rfl ?_
      refine gk_if_ne (pc := 190) 204 d_M_divisors_190 rfl (fun _ => ?_) (fun _ => ?_)
      · refine gk_iload (pc := 193) 5 d_M_divisors_193 rfl ?_
        refine gk_if_eq (pc := 195) 204 d_M_divisors_195 rfl (fun _ => ?_) (fun _ => ?_)
        · refine gk_weak [0, 1, 2, 3, 4] (L' := [(0, va_rf v0), (1, .int v1), (4, .long v4), (6, .long v6), (9, .int v9)]) rfl ?_
          exact p_M_divisors_b204 d v0 v1 v4 v6 v9 h
        · refine gk_aload_n (pc := 198) 0 d_M_divisors_198 rfl ?_
          refine gk_bipush (pc := 199) (6 : Int32) d_M_divisors_199 rfl ?_
          refine gk_callV (pc := 201) (d := (d + 4)) (w' := gv_V) (as := [.int (6 : Int32)]) (n := 1) 7 d_M_divisors_201 rfl rfl rfl rfl (Nat.le_of_ble_eq_true rfl) tw_1805 tw_1807 tw_21 tw_99 cw_M_fail hy_M_fail (Nat.le_of_ble_eq_true rfl) (p_M_fail (d + 4) v0 (6 : Int32) h) fun _ h1 => ?_
          refine gk_weak [0, 1, 2, 3, 4] (L' := [(0, va_rf v0), (1, .int v1), (4, .long v4), (6, .long v6), (9, .int v9)]) rfl ?_
          exact p_M_divisors_b204 d v0 v1 v4 v6 v9 h1
      · refine gk_weak [0, 1, 2, 3, 4] (L' := [(0, va_rf v0), (1, .int v1), (4, .long v4), (6, .long v6), (9, .int v9)]) rfl ?_
        exact p_M_divisors_b204 d v0 v1 v4 v6 v9 h
    · refine gk_weak [0, 1, 2, 3, 4] (L' := [(0, va_rf v0), (1, .int v1), (4, .long v4), (6, .long v6), (9, .int v9)]) rfl ?_
      exact p_M_divisors_b204 d v0 v1 v4 v6 v9 h
  · refine gk_weak [0, 1, 2, 3, 4] (L' := [(0, va_rf v0), (1, .int v1), (4, .long v4), (6, .long v6), (9, .int v9)]) rfl ?_
    exact p_M_divisors_b204 d v0 v1 v4 v6 v9 h
theorem p_M_divisors_b151 (d : Nat) (b18 : Option Nat → Int32 → Int32 → Int32 → Int64 → Int64 → Int32 → Int32 → Int32 → Int32 → gk_H → Option (Unit × gk_H)) (q18 : ∀ (v0 : Option Nat) (v1 : Int32) (v2 : Int32) (v3 : Int32) (v4 : Int64) (v6 : Int64) (v8 : Int32) (v9 : Int32) (v10 : Int32) (v11 : Int32) (h : gk_H), gk_P gw_V (d + 5) y_M_divisors b_M_divisors 16 none [] (b18 v0 v1 v2 v3 v4 v6 v8 v9 v10 v11 h) 18 [(0, va_rf v0), (1, .int v1), (2, .int v2), (3, .int v3), (4, .long v4), (6, .long v6), (8, .int v8), (9, .int v9), (10, .int v10), (11, .int v11)] [] h) (v0 : Option Nat) (v1 : Int32) (v2 : Int32) (v3 : Int32) (v4 : Int64) (v6 : Int64) (v8 : Int32) (v9 : Int32) (v10 : Int32) (v11 : Int32) (h : gk_H) : gk_P gw_V (d + 5) y_M_divisors b_M_divisors 16 none [] (f_M_divisors_b151 b18 v0 v1 v2 v3 v4 v6 v8 v9 v10 v11 h) 151 [(0, va_rf v0), (1, .int v1), (2, .int v2), (3, .int v3), (4, .long v4), (6, .long v6), (8, .int v8), (9, .int v9), (10, .int v10), (11, .int v11)] [] h := by
  unfold f_M_divisors_b151
  refine gk_iincN (pc := 151) 9 (1 : Int32) (L' := fun x1 => [(11, .int x1), (0, va_rf v0), (1, .int v1), (2, .int v2), (3, .int v3), (4, .long v4), (6, .long v6), (8, .int v8), (9, .int v9), (10, .int v10)]) d_M_divisors_151 rfl rfl (Nat.le_of_ble_eq_true rfl) (fun _ => rfl) fun x1 => ?_
  refine gk_goto (pc := 154) 18 d_M_divisors_154 rfl ?_
  refine gk_weak [1, 2, 3, 4, 5, 6, 7, 8, 9, 0] (L' := [(0, va_rf v0), (1, .int v1), (2, .int v2), (3, .int v3), (4, .long v4), (6, .long v6), (8, .int v8), (9, .int v9), (10, .int v10), (11, .int x1)]) rfl ?_
  exact q18 v0 v1 v2 v3 v4 v6 v8 v9 v10 x1 h
theorem p_M_divisors_b149 (d : Nat) (b18 : Option Nat → Int32 → Int32 → Int32 → Int64 → Int64 → Int32 → Int32 → Int32 → Int32 → gk_H → Option (Unit × gk_H)) (q18 : ∀ (v0 : Option Nat) (v1 : Int32) (v2 : Int32) (v3 : Int32) (v4 : Int64) (v6 : Int64) (v8 : Int32) (v9 : Int32) (v10 : Int32) (v11 : Int32) (h : gk_H), gk_P gw_V (d + 5) y_M_divisors b_M_divisors 16 none [] (b18 v0 v1 v2 v3 v4 v6 v8 v9 v10 v11 h) 18 [(0, va_rf v0), (1, .int v1), (2, .int v2), (3, .int v3), (4, .long v4), (6, .long v6), (8, .int v8), (9, .int v9), (10, .int v10), (11, .int v11)] [] h) (v0 : Option Nat) (v1 : Int32) (v2 : Int32) (v3 : Int32) (v4 : Int64) (v8 : Int32) (v9 : Int32) (v10 : Int32) (v11 : Int32) (s0 : Int64) (h : gk_H) : gk_P gw_V (d + 5) y_M_divisors b_M_divisors 16 none [] (f_M_divisors_b149 b18 v0 v1 v2 v3 v4 v8 v9 v10 v11 s0 h) 149 [(0, va_rf v0), (1, .int v1), (2, .int v2), (3, .int v3), (4, .long v4), (8, .int v8), (9, .int v9), (10, .int v10), (11, .int v11)] [.long s0] h := by
  unfold f_M_divisors_b149
  refine gk_lstore (pc := 149) (L' := [(6, .long s0), (0, va_rf v0), (1, .int v1), (2, .int v2), (3, .int v3), (4, .long v4), (8, .int v8), (9, .int v9), (10, .int v10), (11, .int v11)]) d_M_divisors_149 (Nat.le_of_ble_eq_true rfl) rfl ?_
  refine gk_weak [1, 2, 3, 4, 5, 0, 6, 7, 8, 9] (L' := [(0, va_rf v0), (1, .int v1), (2, .int v2), (3, .int v3), (4, .long v4), (6, .long s0), (8, .int v8), (9, .int v9), (10, .int v10), (11, .int v11)]) rfl ?_
  exact p_M_divisors_b151 d b18 q18 v0 v1 v2 v3 v4 s0 v8 v9 v10 v11 h
theorem p_M_divisors_b132 (d : Nat) (b18 : Option Nat → Int32 → Int32 → Int32 → Int64 → Int64 → Int32 → Int32 → Int32 → Int32 → gk_H → Option (Unit × gk_H)) (q18 : ∀ (v0 : Option Nat) (v1 : Int32) (v2 : Int32) (v3 : Int32) (v4 : Int64) (v6 : Int64) (v8 : Int32) (v9 : Int32) (v10 : Int32) (v11 : Int32) (h : gk_H), gk_P gw_V (d + 5) y_M_divisors b_M_divisors 16 none [] (b18 v0 v1 v2 v3 v4 v6 v8 v9 v10 v11 h) 18 [(0, va_rf v0), (1, .int v1), (2, .int v2), (3, .int v3), (4, .long v4), (6, .long v6), (8, .int v8), (9, .int v9), (10, .int v10), (11, .int v11)] [] h) (v0 : Option Nat) (v1 : Int32) (v2 : Int32) (v3 : Int32) (v4 : Int64) (v6 : Int64) (v8 : Int32) (v9 : Int32) (v11 : Int32) (v14 : Int64) (s0 : Int32) (h : gk_H) : gk_P gw_V (d + 5) y_M_divisors b_M_divisors 16 none [] (f_M_divisors_b132 b18 v0 v1 v2 v3 v4 v6 v8 v9 v11 v14 s0 h) 132 [(0, va_rf v0), (1, .int v1), (2, .int v2), (3, .int v3), (4, .long v4), (6, .long v6), (8, .int v8), (9, .int v9), (11, .int v11), (14, .long v14)] [.int s0] h := by
  unfold f_M_divisors_b132
  refine gk_istore (pc := 132) (L' := [(10, .int s0), (0, va_rf v0), (1, .int v1), (2, .int v2), (3, .int v3), (4, .long v4), (6, .long v6), (8, .int v8), (9, .int v9), (11, .int v11), (14, .long v14)]) d_M_divisors_132 (Nat.le_of_ble_eq_true rfl) rfl ?_
  refine gk_iload (pc := 134) 0 d_M_divisors_134 rfl ?_
  refine gk_if_eq (pc := 136) 144 d_M_divisors_136 rfl (fun _ => ?_) (fun _ => ?_)
  · refine gk_lload (pc := 144) 6 d_M_divisors_144 rfl ?_
    refine gk_lload (pc := 146) 10 d_M_divisors_146 rfl ?_
    refine gk_lmul (pc := 148) d_M_divisors_148 ?_
    refine gk_weak [1, 2, 3, 4, 5, 7, 8, 0, 9] (L' := [(0, va_rf v0), (1, .int v1), (2, .int v2), (3, .int v3), (4, .long v4), (8, .int v8), (9, .int v9), (10, .int s0), (11, .int v11)]) rfl ?_
    exact p_M_divisors_b149 d b18 q18 v0 v1 v2 v3 v4 v8 v9 s0 v11 (v6 * v14) h
  · refine gk_lload (pc := 139) 6 d_M_divisors_139 rfl ?_
    refine gk_goto (pc := 141) 149 d_M_divisors_141 rfl ?_
    refine gk_weak [1, 2, 3, 4, 5, 7, 8, 0, 9] (L' := [(0, va_rf v0), (1, .int v1), (2, .int v2), (3, .int v3), (4, .long v4), (8, .int v8), (9, .int v9), (10, .int s0), (11, .int v11)]) rfl ?_
    exact p_M_divisors_b149 d b18 q18 v0 v1 v2 v3 v4 v8 v9 s0 v11 v6 h
theorem p_M_divisors_b70 (d : Nat) (b18 : Option Nat → Int32 → Int32 → Int32 → Int64 → Int64 → Int32 → Int32 → Int32 → Int32 → gk_H → Option (Unit × gk_H)) (q18 : ∀ (v0 : Option Nat) (v1 : Int32) (v2 : Int32) (v3 : Int32) (v4 : Int64) (v6 : Int64) (v8 : Int32) (v9 : Int32) (v10 : Int32) (v11 : Int32) (h : gk_H), gk_P gw_V (d + 5) y_M_divisors b_M_divisors 16 none [] (b18 v0 v1 v2 v3 v4 v6 v8 v9 v10 v11 h) 18 [(0, va_rf v0), (1, .int v1), (2, .int v2), (3, .int v3), (4, .long v4), (6, .long v6), (8, .int v8), (9, .int v9), (10, .int v10), (11, .int v11)] [] h) (v0 : Option Nat) (v1 : Int32) (v2 : Int32) (v3 : Int32) (v4 : Int64) (v6 : Int64) (v8 : Int32) (v10 : Int32) (v11 : Int32) (v12 : Int64) (s0 : Int32) (h : gk_H) : gk_P gw_V (d + 5) y_M_divisors b_M_divisors 16 none [] (f_M_divisors_b70 b18 v0 v1 v2 v3 v4 v6 v8 v10 v11 v12 s0 h) 70 [(0, va_rf v0), (1, .int v1), (2, .int v2), (3, .int v3), (4, .long v4), (6, .long v6), (8, .int v8), (10, .int v10), (11, .int v11), (12, .long v12)] [.int s0] h := by
  unfold f_M_divisors_b70
  refine gk_istore (pc := 70) (L' := [(9, .int s0), (0, va_rf v0), (1, .int v1), (2, .int v2), (3, .int v3), (4, .long v4), (6, .long v6), (8, .int v8), (10, .int v10), (11, .int v11), (12, .long v12)]) d_M_divisors_70 (Nat.le_of_ble_eq_true rfl) rfl ?_
  refine gk_aload_n (pc := 72) 1 d_M_divisors_72 rfl ?_
  refine gk_getI (pc := 73) 7 11 d_M_divisors_73 rfl (Nat.le_of_ble_eq_true rfl) tw_1656 fun x1 => ?_
  refine gk_if_ne (pc := 76) 151 d_M_divisors_76 rfl (fun _ => ?_) (fun _ => ?_)
  · refine gk_iload (pc := 79) 7 d_M_divisors_79 rfl ?_
    refine gk_if_ne (pc := 81) 151 d_M_divisors_81 rfl (fun _ => ?_) (fun _ => ?_)
    · refine gk_lload (pc := 84) 5 d_M_divisors_84 rfl ?_
      refine gk_lload (pc := 86) 10 d_M_divisors_86 rfl ?_
      refine gk_callS (pc := 88) (d := (d + 4)) (w' := gv_J) (as := [.long v4, .long v12]) (n := 2) d_M_divisors_88 rfl rfl (Nat.le_of_ble_eq_true rfl) tw_2011 tw_2012 tw_99 cw_M_divisor hy_M_divisor (Nat.le_of_ble_eq_true rfl) (p_M_divisor (d + 4) v4 v12 h) fun x2 h1 => ?_
      refine gk_lstore (pc := 91) (L' := [(4, .long x2), (9, .int s0), (0, va_rf v0), (1, .int v1), (2, .int v2), (3, .int v3), (6, .long v6), (8, .int v8), (10, .int v10), (11, .int v11), (12, .long v12)]) d_M_divisors_91 (Nat.le_of_ble_eq_true rfl) rfl ?_
      refine gk_iload (pc := 93) 1 d_M_divisors_93 rfl ?_
      refine gk_if_ne (pc := 95) 151 d_M_divisors_95 rfl (fun _ => ?_) (fun _ => ?_)
      · refine gk_iload (pc := 98) 8 d_M_divisors_98 rfl ?_
        refine gk_if_ne (pc := 100) 151 d_M_divisors_100 rfl (fun _ => ?_) (fun _ => ?_)
        · refine gk_lload (pc := 103) 10 d_M_divisors_103 rfl ?_
          refine gk_lload (pc := 105) 6 d_M_divisors_105 rfl ?_
          refine gk_lload (pc := 107) 10 d_M_divisors_107 rfl ?_
          refine gk_callS (pc := 109) (d := (d + 4)) (w' := gv_J) (as := [.long v6, .long v12]) (n := 2) d_M_divisors_109 rfl rfl (Nat.le_of_ble_eq_true rfl) tw_2011 tw_2012 tw_99 cw_M_divisor hy_M_divisor (Nat.le_of_ble_eq_true rfl) (p_M_divisor (d + 4) v6 v12 h1) fun x3 h2 => ?_
          refine gk_ite (fun _ => gk_none) fun hz112 => ?_
          refine gk_ldiv (pc := 112) hz112 d_M_divisors_112 ?_
          refine gk_topJ (pc := 113) fun x4 => ?_
          refine gk_lstore (pc := 113) (L' := [(14, .long x4), (4, .long x2), (9, .int s0), (0, va_rf v0), (1, .int v1), (2, .int v2), (3, .int v3), (6, .long v6), (8, .int v8), (10, .int v10), (11, .int v11), (12, .long v12)]) d_M_divisors_113 (Nat.le_of_ble_eq_true rfl) rfl ?_
          refine gk_lload (pc := 115) 0 d_M_divisors_115 rfl ?_
          refine gk_ldc2 (pc := 117) tw_2014 d_M_divisors_117 ?_
          refine gk_lload (pc := 120) 7 d_M_divisors_120 rfl ?_
          refine gk_ite (fun _ => gk_none) fun hz122 => ?_
          refine gk_ldiv (pc := 122) hz122 d_M_divisors_122 ?_
          refine gk_lcmp (pc := 123) d_M_divisors_123 ?_
          refine gk_if_le (pc := 124) 131 d_M_divisors_124 rfl (fun _ => ?_) (fun _ => ?_)
          · refine gk_iconst (pc := 131) (0 : Int32) d_M_divisors_131 rfl ?_
            refine gk_weak [3, 4, 5, 6, 1, 7, 8, 2, 10, 0] (L' := [(0, va_rf v0), (1, .int v1), (2, .int v2), (3, .int v3), (4, .long x2), (6, .long v6), (8, .int v8), (9, .int s0), (11, .int v11), (14, .long x4)]) rfl ?_
            exact p_M_divisors_b132 d b18 q18 v0 v1 v2 v3 x2 v6 v8 s0 v11 x4 (0 : Int32) h2
          · refine gk_iconst (pc := 127) (1 : Int32) d_M_divisors_127 rfl ?_
            refine gk_goto (pc := 128) 132 d_M_divisors_128 rfl ?_
            refine gk_weak [3, 4, 5, 6, 1, 7, 8, 2, 10, 0] (L' := [(0, va_rf v0), (1, .int v1), (2, .int v2), (3, .int v3), (4, .long x2), (6, .long v6), (8, .int v8), (9, .int s0), (11, .int v11), (14, .long x4)]) rfl ?_
            exact p_M_divisors_b132 d b18 q18 v0 v1 v2 v3 x2 v6 v8 s0 v11 x4 (1 : Int32) h2
        · refine gk_weak [2, 3, 4, 5, 0, 6, 7, 1, 8, 9] (L' := [(0, va_rf v0), (1, .int v1), (2, .int v2), (3, .int v3), (4, .long x2), (6, .long v6), (8, .int v8), (9, .int s0), (10, .int v10), (11, .int v11)]) rfl ?_
          exact p_M_divisors_b151 d b18 q18 v0 v1 v2 v3 x2 v6 v8 s0 v10 v11 h1
      · refine gk_weak [2, 3, 4, 5, 0, 6, 7, 1, 8, 9] (L' := [(0, va_rf v0), (1, .int v1), (2, .int v2), (3, .int v3), (4, .long x2), (6, .long v6), (8, .int v8), (9, .int s0), (10, .int v10), (11, .int v11)]) rfl ?_
        exact p_M_divisors_b151 d b18 q18 v0 v1 v2 v3 x2 v6 v8 s0 v10 v11 h1
    · refine gk_weak [1, 2, 3, 4, 5, 6, 7, 0, 8, 9] (L' := [(0, va_rf v0), (1, .int v1), (2, .int v2), (3, .int v3), (4, .long v4), (6, .long v6), (8, .int v8), (9, .int s0), (10, .int v10), (11, .int v11)]) rfl ?_
      exact p_M_divisors_b151 d b18 q18 v0 v1 v2 v3 v4 v6 v8 s0 v10 v11 h
  · refine gk_weak [1, 2, 3, 4, 5, 6, 7, 0, 8, 9] (L' := [(0, va_rf v0), (1, .int v1), (2, .int v2), (3, .int v3), (4, .long v4), (6, .long v6), (8, .int v8), (9, .int s0), (10, .int v10), (11, .int v11)]) rfl ?_
    exact p_M_divisors_b151 d b18 q18 v0 v1 v2 v3 v4 v6 v8 s0 v10 v11 h
theorem p_M_divisors_b65 (d : Nat) (b18 : Option Nat → Int32 → Int32 → Int32 → Int64 → Int64 → Int32 → Int32 → Int32 → Int32 → gk_H → Option (Unit × gk_H)) (q18 : ∀ (v0 : Option Nat) (v1 : Int32) (v2 : Int32) (v3 : Int32) (v4 : Int64) (v6 : Int64) (v8 : Int32) (v9 : Int32) (v10 : Int32) (v11 : Int32) (h : gk_H), gk_P gw_V (d + 5) y_M_divisors b_M_divisors 16 none [] (b18 v0 v1 v2 v3 v4 v6 v8 v9 v10 v11 h) 18 [(0, va_rf v0), (1, .int v1), (2, .int v2), (3, .int v3), (4, .long v4), (6, .long v6), (8, .int v8), (9, .int v9), (10, .int v10), (11, .int v11)] [] h) (v0 : Option Nat) (v1 : Int32) (v2 : Int32) (v3 : Int32) (v4 : Int64) (v6 : Int64) (v8 : Int32) (v10 : Int32) (v11 : Int32) (v12 : Int64) (h : gk_H) : gk_P gw_V (d + 5) y_M_divisors b_M_divisors 16 none [] (f_M_divisors_b65 b18 v0 v1 v2 v3 v4 v6 v8 v10 v11 v12 h) 65 [(0, va_rf v0), (1, .int v1), (2, .int v2), (3, .int v3), (4, .long v4), (6, .long v6), (8, .int v8), (10, .int v10), (11, .int v11), (12, .long v12)] [] h := by
  unfold f_M_divisors_b65
  refine gk_iconst (pc := 65) (1 : Int32) d_M_divisors_65 rfl ?_
  refine gk_goto (pc := 66) 70 d_M_divisors_66 rfl ?_
  exact p_M_divisors_b70 d b18 q18 v0 v1 v2 v3 v4 v6 v8 v10 v11 v12 (1 : Int32) h
theorem p_M_divisors_b51 (d : Nat) (b18 : Option Nat → Int32 → Int32 → Int32 → Int64 → Int64 → Int32 → Int32 → Int32 → Int32 → gk_H → Option (Unit × gk_H)) (q18 : ∀ (v0 : Option Nat) (v1 : Int32) (v2 : Int32) (v3 : Int32) (v4 : Int64) (v6 : Int64) (v8 : Int32) (v9 : Int32) (v10 : Int32) (v11 : Int32) (h : gk_H), gk_P gw_V (d + 5) y_M_divisors b_M_divisors 16 none [] (b18 v0 v1 v2 v3 v4 v6 v8 v9 v10 v11 h) 18 [(0, va_rf v0), (1, .int v1), (2, .int v2), (3, .int v3), (4, .long v4), (6, .long v6), (8, .int v8), (9, .int v9), (10, .int v10), (11, .int v11)] [] h) (v0 : Option Nat) (v1 : Int32) (v2 : Int32) (v3 : Int32) (v4 : Int64) (v6 : Int64) (v9 : Int32) (v10 : Int32) (v11 : Int32) (v12 : Int64) (s0 : Int32) (h : gk_H) : gk_P gw_V (d + 5) y_M_divisors b_M_divisors 16 none [] (f_M_divisors_b51 b18 v0 v1 v2 v3 v4 v6 v9 v10 v11 v12 s0 h) 51 [(0, va_rf v0), (1, .int v1), (2, .int v2), (3, .int v3), (4, .long v4), (6, .long v6), (9, .int v9), (10, .int v10), (11, .int v11), (12, .long v12)] [.int s0] h := by
  unfold f_M_divisors_b51
  refine gk_istore (pc := 51) (L' := [(8, .int s0), (0, va_rf v0), (1, .int v1), (2, .int v2), (3, .int v3), (4, .long v4), (6, .long v6), (9, .int v9), (10, .int v10), (11, .int v11), (12, .long v12)]) d_M_divisors_51 (Nat.le_of_ble_eq_true rfl) rfl ?_
  refine gk_iload (pc := 53) 7 d_M_divisors_53 rfl ?_
  refine gk_if_ne (pc := 55) 65 d_M_divisors_55 rfl (fun _ => ?_) (fun _ => ?_)
  · refine gk_lload (pc := 58) 10 d_M_divisors_58 rfl ?_
    refine gk_lconst (pc := 60) (0 : Int64) d_M_divisors_60 rfl ?_
    refine gk_lcmp (pc := 61) d_M_divisors_61 ?_
    refine gk_if_ne (pc := 62) 69 d_M_divisors_62 rfl (fun _ => ?_) (fun _ => ?_)
    · refine gk_weak [1, 2, 3, 4, 5, 6, 0, 8, 9, 10] (L' := [(0, va_rf v0), (1, .int v1), (2, .int v2), (3, .int v3), (4, .long v4), (6, .long v6), (8, .int s0), (10, .int v10), (11, .int v11), (12, .long v12)]) rfl ?_
      exact p_M_divisors_b65 d b18 q18 v0 v1 v2 v3 v4 v6 s0 v10 v11 v12 h
    · refine gk_iconst (pc := 69) (0 : Int32) d_M_divisors_69 rfl ?_
      refine gk_weak [1, 2, 3, 4, 5, 6, 0, 8, 9, 10] (L' := [(0, va_rf v0), (1, .int v1), (2, .int v2), (3, .int v3), (4, .long v4), (6, .long v6), (8, .int s0), (10, .int v10), (11, .int v11), (12, .long v12)]) rfl ?_
      exact p_M_divisors_b70 d b18 q18 v0 v1 v2 v3 v4 v6 s0 v10 v11 v12 (0 : Int32) h
  · refine gk_weak [1, 2, 3, 4, 5, 6, 0, 8, 9, 10] (L' := [(0, va_rf v0), (1, .int v1), (2, .int v2), (3, .int v3), (4, .long v4), (6, .long v6), (8, .int s0), (10, .int v10), (11, .int v11), (12, .long v12)]) rfl ?_
    exact p_M_divisors_b65 d b18 q18 v0 v1 v2 v3 v4 v6 s0 v10 v11 v12 h
theorem p_M_divisors_b46 (d : Nat) (b18 : Option Nat → Int32 → Int32 → Int32 → Int64 → Int64 → Int32 → Int32 → Int32 → Int32 → gk_H → Option (Unit × gk_H)) (q18 : ∀ (v0 : Option Nat) (v1 : Int32) (v2 : Int32) (v3 : Int32) (v4 : Int64) (v6 : Int64) (v8 : Int32) (v9 : Int32) (v10 : Int32) (v11 : Int32) (h : gk_H), gk_P gw_V (d + 5) y_M_divisors b_M_divisors 16 none [] (b18 v0 v1 v2 v3 v4 v6 v8 v9 v10 v11 h) 18 [(0, va_rf v0), (1, .int v1), (2, .int v2), (3, .int v3), (4, .long v4), (6, .long v6), (8, .int v8), (9, .int v9), (10, .int v10), (11, .int v11)] [] h) (v0 : Option Nat) (v1 : Int32) (v2 : Int32) (v3 : Int32) (v4 : Int64) (v6 : Int64) (v9 : Int32) (v10 : Int32) (v11 : Int32) (v12 : Int64) (h : gk_H) : gk_P gw_V (d + 5) y_M_divisors b_M_divisors 16 none [] (f_M_divisors_b46 b18 v0 v1 v2 v3 v4 v6 v9 v10 v11 v12 h) 46 [(0, va_rf v0), (1, .int v1), (2, .int v2), (3, .int v3), (4, .long v4), (6, .long v6), (9, .int v9), (10, .int v10), (11, .int v11), (12, .long v12)] [] h := by
  unfold f_M_divisors_b46
  refine gk_iconst (pc := 46) (1 : Int32) d_M_divisors_46 rfl ?_
  refine gk_goto (pc := 47) 51 d_M_divisors_47 rfl ?_
  exact p_M_divisors_b51 d b18 q18 v0 v1 v2 v3 v4 v6 v9 v10 v11 v12 (1 : Int32) h
theorem p_M_divisors_b18 (d : Nat)  : ∀ (fu : Nat) (v0 : Option Nat) (v1 : Int32) (v2 : Int32) (v3 : Int32) (v4 : Int64) (v6 : Int64) (v8 : Int32) (v9 : Int32) (v10 : Int32) (v11 : Int32) (h : gk_H), gk_P gw_V (d + 5) y_M_divisors b_M_divisors 16 none [] (f_M_divisors_b18  fu v0 v1 v2 v3 v4 v6 v8 v9 v10 v11 h) 18 [(0, va_rf v0), (1, .int v1), (2, .int v2), (3, .int v3), (4, .long v4), (6, .long v6), (8, .int v8), (9, .int v9), (10, .int v10), (11, .int v11)] [] h := by
  intro fu
  induction fu with
  | zero => intros; exact gk_none
  | succ fu q18 =>
    intro v0 v1 v2 v3 v4 v6 v8 v9 v10 v11 h
    rw [f_M_divisors_b18]
    refine gk_iload (pc := 18) 9 d_M_divisors_18 rfl ?_
    refine gk_iload_n (pc := 20) 2 d_M_divisors_20 rfl ?_
    refine gk_iload_n (pc := 21) 3 d_M_divisors_21 rfl ?_
    refine gk_iadd (pc := 22) d_M_divisors_22 ?_
    refine gk_icmp_ge (pc := 23) 157 d_M_divisors_23 rfl (fun _ => ?_) (fun _ => ?_)
    · refine gk_aload_n (pc := 157) 0 d_M_divisors_157 rfl ?_
      refine gk_getI (pc := 158) 7 11 d_M_divisors_158 rfl (Nat.le_of_ble_eq_true rfl) tw_1656 fun x1 => ?_
      refine gk_if_ne (pc := 161) 175 d_M_divisors_161 rfl (fun _ => ?_) (fun _ => ?_)
      · refine gk_iload (pc := 164) 6 d_M_divisors_164 rfl ?_
        refine gk_if_eq (pc := 166) 175 d_M_divisors_166 rfl (fun _ => ?_) (fun _ => ?_)
        · refine gk_weak [0, 1, 4, 5, 7, 8] (L' := [(0, va_rf v0), (1, .int v1), (4, .long v4), (6, .long v6), (9, .int v9), (10, .int v10)]) rfl ?_
          exact p_M_divisors_b175 d v0 v1 v4 v6 v9 v10 h
        · refine gk_aload_n (pc := 169) 0 d_M_divisors_169 rfl ?_
          refine gk_bipush (pc := 170) (6 : Int32) d_M_divisors_170 rfl ?_
          refine gk_callV (pc := 172) (d := (d + 4)) (w' := gv_V) (as := [.int (6 : Int32)]) (n := 1) 7 d_M_divisors_172 rfl rfl rfl rfl (Nat.le_of_ble_eq_true rfl) tw_1805 tw_1807 tw_21 tw_99 cw_M_fail hy_M_fail (Nat.le_of_ble_eq_true rfl) (p_M_fail (d + 4) v0 (6 : Int32) h) fun _ h1 => ?_
          refine gk_weak [0, 1, 4, 5, 7, 8] (L' := [(0, va_rf v0), (1, .int v1), (4, .long v4), (6, .long v6), (9, .int v9), (10, .int v10)]) rfl ?_
          exact p_M_divisors_b175 d v0 v1 v4 v6 v9 v10 h1
      · refine gk_weak [0, 1, 4, 5, 7, 8] (L' := [(0, va_rf v0), (1, .int v1), (4, .long v4), (6, .long v6), (9, .int v9), (10, .int v10)]) rfl ?_
        exact p_M_divisors_b175 d v0 v1 v4 v6 v9 v10 h
    · refine gk_aload_n (pc := 26) 0 d_M_divisors_26 rfl ?_
      refine gk_iload (pc := 27) 9 d_M_divisors_27 rfl ?_
      refine gk_callV (pc := 29) (d := (d + 4)) (w' := gv_J) (as := [.int v11]) (n := 1) 7 d_M_divisors_29 rfl rfl rfl rfl (Nat.le_of_ble_eq_true rfl) tw_1954 tw_1956 tw_45 tw_99 cw_M_wantWhole hy_M_wantWhole (Nat.le_of_ble_eq_true rfl) (p_M_wantWhole d v0 v11 h) fun x2 h2 => ?_
      refine gk_lstore (pc := 32) (L' := [(12, .long x2), (0, va_rf v0), (1, .int v1), (2, .int v2), (3, .int v3), (4, .long v4), (6, .long v6), (8, .int v8), (9, .int v9), (10, .int v10), (11, .int v11)]) d_M_divisors_32 (Nat.le_of_ble_eq_true rfl) rfl ?_
      refine gk_iload (pc := 34) 7 d_M_divisors_34 rfl ?_
      refine gk_if_ne (pc := 36) 46 d_M_divisors_36 rfl (fun _ => ?_) (fun _ => ?_)
      · refine gk_lload (pc := 39) 0 d_M_divisors_39 rfl ?_
        refine gk_lconst (pc := 41) (0 : Int64) d_M_divisors_41 rfl ?_
        refine gk_lcmp (pc := 42) d_M_divisors_42 ?_
        refine gk_if_ge (pc := 43) 50 d_M_divisors_43 rfl (fun _ => ?_) (fun _ => ?_)
        · refine gk_iconst (pc := 50) (0 : Int32) d_M_divisors_50 rfl ?_
          refine gk_weak [1, 2, 3, 4, 5, 6, 8, 9, 10, 0] (L' := [(0, va_rf v0), (1, .int v1), (2, .int v2), (3, .int v3), (4, .long v4), (6, .long v6), (9, .int v9), (10, .int v10), (11, .int v11), (12, .long x2)]) rfl ?_
          exact p_M_divisors_b51 d (f_M_divisors_b18 fu) q18 v0 v1 v2 v3 v4 v6 v9 v10 v11 x2 (0 : Int32) h2
        · refine gk_weak [1, 2, 3, 4, 5, 6, 8, 9, 10, 0] (L' := [(0, va_rf v0), (1, .int v1), (2, .int v2), (3, .int v3), (4, .long v4), (6, .long v6), (9, .int v9), (10, .int v10), (11, .int v11), (12, .long x2)]) rfl ?_
          exact p_M_divisors_b46 d (f_M_divisors_b18 fu) q18 v0 v1 v2 v3 v4 v6 v9 v10 v11 x2 h2
      · refine gk_weak [1, 2, 3, 4, 5, 6, 8, 9, 10, 0] (L' := [(0, va_rf v0), (1, .int v1), (2, .int v2), (3, .int v3), (4, .long v4), (6, .long v6), (9, .int v9), (10, .int v10), (11, .int v11), (12, .long x2)]) rfl ?_
        exact p_M_divisors_b46 d (f_M_divisors_b18 fu) q18 v0 v1 v2 v3 v4 v6 v9 v10 v11 x2 h2
theorem w_M_divisors (d : Nat) (a0 : Option Nat) (a1 : Int32) (a2 : Int32) (a3 : Int32) (h : gk_H) : gk_P gw_V (d + 5) y_M_divisors b_M_divisors 16 none [] (f_M_divisors a0 a1 a2 a3 h) 0 [(0, va_rf a0), (1, .int a1), (2, .int a2), (3, .int a3)] [] h := by
  unfold f_M_divisors
  refine gk_lconst (pc := 0) (0 : Int64) d_M_divisors_0 rfl ?_
  refine gk_lstore (pc := 1) (L' := [(4, .long (0 : Int64)), (0, va_rf a0), (1, .int a1), (2, .int a2), (3, .int a3)]) d_M_divisors_1 (Nat.le_of_ble_eq_true rfl) rfl ?_
  refine gk_lconst (pc := 3) (1 : Int64) d_M_divisors_3 rfl ?_
  refine gk_lstore (pc := 4) (L' := [(6, .long (1 : Int64)), (4, .long (0 : Int64)), (0, va_rf a0), (1, .int a1), (2, .int a2), (3, .int a3)]) d_M_divisors_4 (Nat.le_of_ble_eq_true rfl) rfl ?_
  refine gk_iconst (pc := 6) (0 : Int32) d_M_divisors_6 rfl ?_
  refine gk_istore (pc := 7) (L' := [(8, .int (0 : Int32)), (6, .long (1 : Int64)), (4, .long (0 : Int64)), (0, va_rf a0), (1, .int a1), (2, .int a2), (3, .int a3)]) d_M_divisors_7 (Nat.le_of_ble_eq_true rfl) rfl ?_
  refine gk_iconst (pc := 9) (0 : Int32) d_M_divisors_9 rfl ?_
  refine gk_istore (pc := 10) (L' := [(9, .int (0 : Int32)), (8, .int (0 : Int32)), (6, .long (1 : Int64)), (4, .long (0 : Int64)), (0, va_rf a0), (1, .int a1), (2, .int a2), (3, .int a3)]) d_M_divisors_10 (Nat.le_of_ble_eq_true rfl) rfl ?_
  refine gk_iconst (pc := 12) (0 : Int32) d_M_divisors_12 rfl ?_
  refine gk_istore (pc := 13) (L' := [(10, .int (0 : Int32)), (9, .int (0 : Int32)), (8, .int (0 : Int32)), (6, .long (1 : Int64)), (4, .long (0 : Int64)), (0, va_rf a0), (1, .int a1), (2, .int a2), (3, .int a3)]) d_M_divisors_13 (Nat.le_of_ble_eq_true rfl) rfl ?_
  refine gk_iload_n (pc := 15) 7 d_M_divisors_15 rfl ?_
  refine gk_istore (pc := 16) (L' := [(11, .int a2), (10, .int (0 : Int32)), (9, .int (0 : Int32)), (8, .int (0 : Int32)), (6, .long (1 : Int64)), (4, .long (0 : Int64)), (0, va_rf a0), (1, .int a1), (2, .int a2), (3, .int a3)]) d_M_divisors_16 (Nat.le_of_ble_eq_true rfl) rfl ?_
  refine gk_weak [6, 7, 8, 9, 5, 4, 3, 2, 1, 0] (L' := [(0, va_rf a0), (1, .int a1), (2, .int a2), (3, .int a3), (4, .long (0 : Int64)), (6, .long (1 : Int64)), (8, .int (0 : Int32)), (9, .int (0 : Int32)), (10, .int (0 : Int32)), (11, .int a2)]) rfl ?_
  exact p_M_divisors_b18 d gk_F a0 a1 a2 a3 (0 : Int64) (1 : Int64) (0 : Int32) (0 : Int32) (0 : Int32) a2 h
theorem p_M_divisors (d : Nat) (a0 : Option Nat) (a1 : Int32) (a2 : Int32) (a3 : Int32) (h : gk_H) : ∀ r h1, f_M_divisors a0 a1 a2 a3 h = some (r, h1) → gk_M (d + 5) y_M_divisors b_M_divisors 16 none [va_rf a0, .int a1, .int a2, .int a3] h (.inl (gv_V r)) h1 :=
  fun r h1 e => gk_M_of2 (by decide +kernel) (by simp [lv_args, gk_cat_rf, gk_catI, gk_catJ, gk_catD, gv_V, gv_I, gv_J, gv_D, gv_R]) (by simp [lg_sl, gk_cat_rf, gk_catI, gk_catJ, gk_catD, gv_V, gv_I, gv_J, gv_D, gv_R]) (w_M_divisors d a0 a1 a2 a3 h r h1 e)
theorem d_M_numbers_0 : decode b_M_numbers 0 = .ok (.iload_n 1, 1) := by decide +kernel
theorem d_M_numbers_1 : decode b_M_numbers 1 = .ok (.bipush 25, 2) := by decide +kernel
theorem d_M_numbers_3 : decode b_M_numbers 3 = .ok (.if_icmp .eq 9, 3) := by decide +kernel
theorem d_M_numbers_6 : decode b_M_numbers 6 = .ok (.iload_n 1, 1) := by decide +kernel
theorem d_M_numbers_7 : decode b_M_numbers 7 = .ok (.bipush 26, 2) := by decide +kernel
theorem d_M_numbers_9 : decode b_M_numbers 9 = .ok (.if_icmp .ne 11, 3) := by decide +kernel
theorem d_M_numbers_12 : decode b_M_numbers 12 = .ok (.aload_n 0, 1) := by decide +kernel
theorem d_M_numbers_13 : decode b_M_numbers 13 = .ok (.iload_n 1, 1) := by decide +kernel
theorem d_M_numbers_14 : decode b_M_numbers 14 = .ok (.iload_n 2, 1) := by decide +kernel
theorem d_M_numbers_15 : decode b_M_numbers 15 = .ok (.iload_n 3, 1) := by decide +kernel
theorem d_M_numbers_16 : decode b_M_numbers 16 = .ok (.invokevirtual 328, 3) := by decide +kernel
theorem d_M_numbers_19 : decode b_M_numbers 19 = .ok (.return_, 1) := by decide +kernel
theorem d_M_numbers_20 : decode b_M_numbers 20 = .ok (.iload_n 1, 1) := by decide +kernel
theorem d_M_numbers_21 : decode b_M_numbers 21 = .ok (.bipush 27, 2) := by decide +kernel
theorem d_M_numbers_23 : decode b_M_numbers 23 = .ok (.if_icmp .eq 9, 3) := by decide +kernel
theorem d_M_numbers_26 : decode b_M_numbers 26 = .ok (.iload_n 1, 1) := by decide +kernel
theorem d_M_numbers_27 : decode b_M_numbers 27 = .ok (.bipush 28, 2) := by decide +kernel
theorem d_M_numbers_29 : decode b_M_numbers 29 = .ok (.if_icmp .ne 10, 3) := by decide +kernel
theorem d_M_numbers_32 : decode b_M_numbers 32 = .ok (.aload_n 0, 1) := by decide +kernel
theorem d_M_numbers_33 : decode b_M_numbers 33 = .ok (.iload_n 1, 1) := by decide +kernel
theorem d_M_numbers_34 : decode b_M_numbers 34 = .ok (.iload_n 2, 1) := by decide +kernel
theorem d_M_numbers_35 : decode b_M_numbers 35 = .ok (.invokevirtual 331, 3) := by decide +kernel
theorem d_M_numbers_38 : decode b_M_numbers 38 = .ok (.return_, 1) := by decide +kernel
theorem d_M_numbers_39 : decode b_M_numbers 39 = .ok (.aload_n 0, 1) := by decide +kernel
theorem d_M_numbers_40 : decode b_M_numbers 40 = .ok (.iload_n 2, 1) := by decide +kernel
theorem d_M_numbers_41 : decode b_M_numbers 41 = .ok (.invokevirtual 137, 3) := by decide +kernel
theorem d_M_numbers_44 : decode b_M_numbers 44 = .ok (.dstore 4, 2) := by decide +kernel
theorem d_M_numbers_46 : decode b_M_numbers 46 = .ok (.iload_n 1, 1) := by decide +kernel
theorem d_M_numbers_47 : decode b_M_numbers 47 = .ok (.bipush 32, 2) := by decide +kernel
theorem d_M_numbers_49 : decode b_M_numbers 49 = .ok (.if_icmp .le 84, 3) := by decide +kernel
theorem d_M_numbers_52 : decode b_M_numbers 52 = .ok (.iload_n 3, 1) := by decide +kernel
theorem d_M_numbers_53 : decode b_M_numbers 53 = .ok (.iconst 2, 1) := by decide +kernel
theorem d_M_numbers_54 : decode b_M_numbers 54 = .ok (.if_icmp .ne 13, 3) := by decide +kernel
theorem d_M_numbers_57 : decode b_M_numbers 57 = .ok (.aload_n 0, 1) := by decide +kernel
theorem d_M_numbers_58 : decode b_M_numbers 58 = .ok (.iload_n 2, 1) := by decide +kernel
theorem d_M_numbers_59 : decode b_M_numbers 59 = .ok (.iconst 1, 1) := by decide +kernel
theorem d_M_numbers_60 : decode b_M_numbers 60 = .ok (.iadd, 1) := by decide +kernel
theorem d_M_numbers_61 : decode b_M_numbers 61 = .ok (.invokevirtual 296, 3) := by decide +kernel
theorem d_M_numbers_64 : decode b_M_numbers 64 = .ok (.goto 4, 3) := by decide +kernel
theorem d_M_numbers_67 : decode b_M_numbers 67 = .ok (.lconst 0, 1) := by decide +kernel
theorem d_M_numbers_68 : decode b_M_numbers 68 = .ok (.lstore 6, 2) := by decide +kernel
theorem d_M_numbers_70 : decode b_M_numbers 70 = .ok (.aload_n 0, 1) := by decide +kernel
theorem d_M_numbers_71 : decode b_M_numbers 71 = .ok (.getfield 62, 3) := by decide +kernel
theorem d_M_numbers_74 : decode b_M_numbers 74 = .ok (.ifCond .ne 27, 3) := by decide +kernel
theorem d_M_numbers_77 : decode b_M_numbers 77 = .ok (.lload 6, 2) := by decide +kernel
theorem d_M_numbers_79 : decode b_M_numbers 79 = .ok (.ldc2_w 334, 3) := by decide +kernel
theorem d_M_numbers_82 : decode b_M_numbers 82 = .ok (.lcmp, 1) := by decide +kernel
theorem d_M_numbers_83 : decode b_M_numbers 83 = .ok (.ifCond .lt 12, 3) := by decide +kernel
theorem d_M_numbers_86 : decode b_M_numbers 86 = .ok (.lload 6, 2) := by decide +kernel
theorem d_M_numbers_88 : decode b_M_numbers 88 = .ok (.ldc2_w 336, 3) := by decide +kernel
theorem d_M_numbers_91 : decode b_M_numbers 91 = .ok (.lcmp, 1) := by decide +kernel
theorem d_M_numbers_92 : decode b_M_numbers 92 = .ok (.ifCond .le 9, 3) := by decide +kernel
theorem d_M_numbers_95 : decode b_M_numbers 95 = .ok (.aload_n 0, 1) := by decide +kernel
theorem d_M_numbers_96 : decode b_M_numbers 96 = .ok (.bipush 6, 2) := by decide +kernel
theorem d_M_numbers_98 : decode b_M_numbers 98 = .ok (.invokevirtual 58, 3) := by decide +kernel
theorem d_M_numbers_101 : decode b_M_numbers 101 = .ok (.aload_n 0, 1) := by decide +kernel
theorem d_M_numbers_102 : decode b_M_numbers 102 = .ok (.getfield 62, 3) := by decide +kernel
theorem d_M_numbers_105 : decode b_M_numbers 105 = .ok (.ifCond .ne 27, 3) := by decide +kernel
theorem d_M_numbers_108 : decode b_M_numbers 108 = .ok (.aload_n 0, 1) := by decide +kernel
theorem d_M_numbers_109 : decode b_M_numbers 109 = .ok (.aload_n 0, 1) := by decide +kernel
theorem d_M_numbers_110 : decode b_M_numbers 110 = .ok (.dload 4, 2) := by decide +kernel
theorem d_M_numbers_112 : decode b_M_numbers 112 = .ok (.lload 6, 2) := by decide +kernel
theorem d_M_numbers_114 : decode b_M_numbers 114 = .ok (.l2i, 1) := by decide +kernel
theorem d_M_numbers_115 : decode b_M_numbers 115 = .ok (.iload_n 1, 1) := by decide +kernel
theorem d_M_numbers_116 : decode b_M_numbers 116 = .ok (.bipush 34, 2) := by decide +kernel
theorem d_M_numbers_118 : decode b_M_numbers 118 = .ok (.if_icmp .ne 7, 3) := by decide +kernel
theorem d_M_numbers_121 : decode b_M_numbers 121 = .ok (.iconst 1, 1) := by decide +kernel
theorem d_M_numbers_122 : decode b_M_numbers 122 = .ok (.goto 4, 3) := by decide +kernel
theorem d_M_numbers_125 : decode b_M_numbers 125 = .ok (.iconst 0, 1) := by decide +kernel
theorem d_M_numbers_126 : decode b_M_numbers 126 = .ok (.invokevirtual 338, 3) := by decide +kernel
theorem d_M_numbers_129 : decode b_M_numbers 129 = .ok (.invokevirtual 207, 3) := by decide +kernel
theorem d_M_numbers_132 : decode b_M_numbers 132 = .ok (.return_, 1) := by decide +kernel
theorem d_M_numbers_133 : decode b_M_numbers 133 = .ok (.iload_n 3, 1) := by decide +kernel
theorem d_M_numbers_134 : decode b_M_numbers 134 = .ok (.iconst 2, 1) := by decide +kernel
theorem d_M_numbers_135 : decode b_M_numbers 135 = .ok (.if_icmp .ne 13, 3) := by decide +kernel
theorem d_M_numbers_138 : decode b_M_numbers 138 = .ok (.aload_n 0, 1) := by decide +kernel
theorem d_M_numbers_139 : decode b_M_numbers 139 = .ok (.iload_n 2, 1) := by decide +kernel
theorem d_M_numbers_140 : decode b_M_numbers 140 = .ok (.iconst 1, 1) := by decide +kernel
theorem d_M_numbers_141 : decode b_M_numbers 141 = .ok (.iadd, 1) := by decide +kernel
theorem d_M_numbers_142 : decode b_M_numbers 142 = .ok (.invokevirtual 137, 3) := by decide +kernel
theorem d_M_numbers_145 : decode b_M_numbers 145 = .ok (.goto 4, 3) := by decide +kernel
theorem d_M_numbers_148 : decode b_M_numbers 148 = .ok (.dconst 0, 1) := by decide +kernel
theorem d_M_numbers_149 : decode b_M_numbers 149 = .ok (.dstore 6, 2) := by decide +kernel
theorem d_M_numbers_151 : decode b_M_numbers 151 = .ok (.aload_n 0, 1) := by decide +kernel
theorem d_M_numbers_152 : decode b_M_numbers 152 = .ok (.getfield 62, 3) := by decide +kernel
theorem d_M_numbers_155 : decode b_M_numbers 155 = .ok (.ifCond .ne 34, 3) := by decide +kernel
theorem d_M_numbers_158 : decode b_M_numbers 158 = .ok (.aload_n 0, 1) := by decide +kernel
theorem d_M_numbers_159 : decode b_M_numbers 159 = .ok (.iload_n 1, 1) := by decide +kernel
theorem d_M_numbers_160 : decode b_M_numbers 160 = .ok (.bipush 28, 2) := by decide +kernel
theorem d_M_numbers_162 : decode b_M_numbers 162 = .ok (.if_icmp .le 15, 3) := by decide +kernel
theorem d_M_numbers_165 : decode b_M_numbers 165 = .ok (.aload_n 0, 1) := by decide +kernel
theorem d_M_numbers_166 : decode b_M_numbers 166 = .ok (.iload_n 1, 1) := by decide +kernel
theorem d_M_numbers_167 : decode b_M_numbers 167 = .ok (.dload 4, 2) := by decide +kernel
theorem d_M_numbers_169 : decode b_M_numbers 169 = .ok (.dload 6, 2) := by decide +kernel
theorem d_M_numbers_171 : decode b_M_numbers 171 = .ok (.invokevirtual 342, 3) := by decide +kernel
theorem d_M_numbers_174 : decode b_M_numbers 174 = .ok (.goto 12, 3) := by decide +kernel
theorem d_M_numbers_177 : decode b_M_numbers 177 = .ok (.aload_n 0, 1) := by decide +kernel
theorem d_M_numbers_178 : decode b_M_numbers 178 = .ok (.iload_n 1, 1) := by decide +kernel
theorem d_M_numbers_179 : decode b_M_numbers 179 = .ok (.dload 4, 2) := by decide +kernel
theorem d_M_numbers_181 : decode b_M_numbers 181 = .ok (.dload 6, 2) := by decide +kernel
theorem d_M_numbers_183 : decode b_M_numbers 183 = .ok (.invokevirtual 345, 3) := by decide +kernel
theorem d_M_numbers_186 : decode b_M_numbers 186 = .ok (.invokevirtual 207, 3) := by decide +kernel
theorem d_M_numbers_189 : decode b_M_numbers 189 = .ok (.return_, 1) := by decide +kernel
theorem p_M_numbers_b12 (d : Nat)  (v0 : Option Nat) (v1 : Int32) (v2 : Int32) (v3 : Int32) (h : gk_H) : gk_P gw_V (d + 6) y_M_numbers b_M_numbers 8 none [] (f_M_numbers_b12  v0 v1 v2 v3 h) 12 [(0, va_rf v0), (1, .int v1), (2, .int v2), (3, .int v3)] [] h := by
  unfold f_M_numbers_b12
  refine gk_aload_n (pc := 12) 0 d_M_numbers_12 rfl ?_
  refine gk_iload_n (pc := 13) 1 d_M_numbers_13 rfl ?_
  refine gk_iload_n (pc := 14) 2 d_M_numbers_14 rfl ?_
  refine gk_iload_n (pc := 15) 3 d_M_numbers_15 rfl ?_
  refine gk_callV (pc := 16) (d := (d + 5)) (w' := gv_V) (as := [.int v1, .int v2, .int v3]) (n := 3) 7 d_M_numbers_16 rfl rfl rfl rfl (Nat.le_of_ble_eq_true rfl) tw_2007 tw_2009 tw_58 tw_99 cw_M_divisors hy_M_divisors (Nat.le_of_ble_eq_true rfl) (p_M_divisors d v0 v1 v2 v3 h) fun _ h1 => ?_
  exact gk_vret (pc := 19) rfl d_M_numbers_19 rfl
theorem p_M_numbers_b32 (d : Nat)  (v0 : Option Nat) (v1 : Int32) (v2 : Int32) (h : gk_H) : gk_P gw_V (d + 6) y_M_numbers b_M_numbers 8 none [] (f_M_numbers_b32  v0 v1 v2 h) 32 [(0, va_rf v0), (1, .int v1), (2, .int v2)] [] h := by
  unfold f_M_numbers_b32
  refine gk_aload_n (pc := 32) 0 d_M_numbers_32 rfl ?_
  refine gk_iload_n (pc := 33) 1 d_M_numbers_33 rfl ?_
  refine gk_iload_n (pc := 34) 2 d_M_numbers_34 rfl ?_
  refine gk_callV (pc := 35) (d := (d + 5)) (w' := gv_V) (as := [.int v1, .int v2]) (n := 2) 7 d_M_numbers_35 rfl rfl rfl rfl (Nat.le_of_ble_eq_true rfl) tw_2015 tw_2017 tw_59 tw_99 cw_M_choosing hy_M_choosing (Nat.le_of_ble_eq_true rfl) (p_M_choosing d v0 v1 v2 h) fun _ h1 => ?_
  exact gk_vret (pc := 38) rfl d_M_numbers_38 rfl
theorem p_M_numbers_b189 (d : Nat)   (h : gk_H) : gk_P gw_V (d + 6) y_M_numbers b_M_numbers 8 none [] (f_M_numbers_b189   h) 189 [] [] h := by
  unfold f_M_numbers_b189
  exact gk_vret (pc := 189) rfl d_M_numbers_189 rfl
theorem p_M_numbers_b186 (d : Nat)  (s0 : Option Nat) (s1 : UInt64) (h : gk_H) : gk_P gw_V (d + 6) y_M_numbers b_M_numbers 8 none [] (f_M_numbers_b186  s0 s1 h) 186 [] [.double s1, va_rf s0] h := by
  unfold f_M_numbers_b186
  refine gk_callV (pc := 186) (d := (d + 5)) (w' := gv_V) (as := [.double s1]) (n := 1) 7 d_M_numbers_186 rfl rfl rfl rfl (Nat.le_of_ble_eq_true rfl) tw_1916 tw_1918 tw_38 tw_99 cw_M_answerNumber hy_M_answerNumber (Nat.le_of_ble_eq_true rfl) (p_M_answerNumber (d + 4) s0 s1 h) fun _ h1 => ?_
  exact p_M_numbers_b189 d h1
theorem p_M_numbers_b149 (d : Nat)  (v0 : Option Nat) (v1 : Int32) (v4 : UInt64) (s0 : UInt64) (h : gk_H) : gk_P gw_V (d + 6) y_M_numbers b_M_numbers 8 none [] (f_M_numbers_b149  v0 v1 v4 s0 h) 149 [(0, va_rf v0), (1, .int v1), (4, .double v4)] [.double s0] h := by
  unfold f_M_numbers_b149
  refine gk_dstore (pc := 149) (L' := [(6, .double s0), (0, va_rf v0), (1, .int v1), (4, .double v4)]) d_M_numbers_149 (Nat.le_of_ble_eq_true rfl) rfl ?_
  refine gk_aload_n (pc := 151) 1 d_M_numbers_151 rfl ?_
  refine gk_getI (pc := 152) 7 11 d_M_numbers_152 rfl (Nat.le_of_ble_eq_true rfl) tw_1656 fun x1 => ?_
  refine gk_if_ne (pc := 155) 189 d_M_numbers_155 rfl (fun _ => ?_) (fun _ => ?_)
  · refine gk_aload_n (pc := 158) 1 d_M_numbers_158 rfl ?_
    refine gk_iload_n (pc := 159) 2 d_M_numbers_159 rfl ?_
    refine gk_bipush (pc := 160) (28 : Int32) d_M_numbers_160 rfl ?_
    refine gk_icmp_le (pc := 162) 177 d_M_numbers_162 rfl (fun _ => ?_) (fun _ => ?_)
    · refine gk_aload_n (pc := 177) 1 d_M_numbers_177 rfl ?_
      refine gk_iload_n (pc := 178) 2 d_M_numbers_178 rfl ?_
      refine gk_dload (pc := 179) 3 d_M_numbers_179 rfl ?_
      refine gk_dload (pc := 181) 0 d_M_numbers_181 rfl ?_
      refine gk_callV (pc := 183) (d := (d + 5)) (w' := gv_D) (as := [.int v1, .double v4, .double s0]) (n := 3) 7 d_M_numbers_183 rfl rfl rfl rfl (by simp [gk_cat_rf, gk_catI, gk_catJ, gk_catD, gv_V, gv_I, gv_J, gv_D, gv_R]) tw_2038 tw_2040 tw_62 tw_99 cw_M_simple hy_M_simple (Nat.le_of_ble_eq_true rfl) (p_M_simple (d + 1) v0 v1 v4 s0 h) fun x2 h1 => ?_
      refine gk_weak [] (L' := []) rfl ?_
      exact p_M_numbers_b186 d v0 x2 h1
    · refine gk_aload_n (pc := 165) 1 d_M_numbers_165 rfl ?_
      refine gk_iload_n (pc := 166) 2 d_M_numbers_166 rfl ?_
      refine gk_dload (pc := 167) 3 d_M_numbers_167 rfl ?_
      refine gk_dload (pc := 169) 0 d_M_numbers_169 rfl ?_
      refine gk_callV (pc := 171) (d := (d + 5)) (w' := gv_D) (as := [.int v1, .double v4, .double s0]) (n := 3) 7 d_M_numbers_171 rfl rfl rfl rfl (by simp [gk_cat_rf, gk_catI, gk_catJ, gk_catD, gv_V, gv_I, gv_J, gv_D, gv_R]) tw_2030 tw_2032 tw_61 tw_99 cw_M_steps hy_M_steps (Nat.le_of_ble_eq_true rfl) (p_M_steps (d + 3) v0 v1 v4 s0 h) fun x3 h2 => ?_
      refine gk_goto (pc := 174) 186 d_M_numbers_174 rfl ?_
      refine gk_weak [] (L' := []) rfl ?_
      exact p_M_numbers_b186 d v0 x3 h2
  · refine gk_weak [] (L' := []) rfl ?_
    exact p_M_numbers_b189 d h
theorem p_M_numbers_b132 (d : Nat)   (h : gk_H) : gk_P gw_V (d + 6) y_M_numbers b_M_numbers 8 none [] (f_M_numbers_b132   h) 132 [] [] h := by
  unfold f_M_numbers_b132
  exact gk_vret (pc := 132) rfl d_M_numbers_132 rfl
theorem p_M_numbers_b126 (d : Nat)  (s0 : Option Nat) (s1 : Option Nat) (s2 : UInt64) (s3 : Int32) (s4 : Int32) (h : gk_H) : gk_P gw_V (d + 6) y_M_numbers b_M_numbers 8 none [] (f_M_numbers_b126  s0 s1 s2 s3 s4 h) 126 [] [.int s4, .int s3, .double s2, va_rf s1, va_rf s0] h := by
  unfold f_M_numbers_b126
  refine gk_callV (pc := 126) (d := (d + 5)) (w' := gv_D) (as := [.double s2, .int s3, .int s4]) (n := 3) 7 d_M_numbers_126 rfl rfl rfl rfl (by simp [gk_cat_rf, gk_catI, gk_catJ, gk_catD, gv_V, gv_I, gv_J, gv_D, gv_R]) tw_2023 tw_2025 tw_60 tw_99 cw_M_rounded hy_M_rounded (Nat.le_of_ble_eq_true rfl) (p_M_rounded (d + 3) s1 s2 s3 s4 h) fun x1 h1 => ?_
  refine gk_callV (pc := 129) (d := (d + 5)) (w' := gv_V) (as := [.double x1]) (n := 1) 7 d_M_numbers_129 rfl rfl rfl rfl (Nat.le_of_ble_eq_true rfl) tw_1916 tw_1918 tw_38 tw_99 cw_M_answerNumber hy_M_answerNumber (Nat.le_of_ble_eq_true rfl) (p_M_answerNumber (d + 4) s0 x1 h1) fun _ h2 => ?_
  exact p_M_numbers_b132 d h2
theorem p_M_numbers_b101 (d : Nat)  (v0 : Option Nat) (v1 : Int32) (v4 : UInt64) (v6 : Int64) (h : gk_H) : gk_P gw_V (d + 6) y_M_numbers b_M_numbers 8 none [] (f_M_numbers_b101  v0 v1 v4 v6 h) 101 [(0, va_rf v0), (1, .int v1), (4, .double v4), (6, .long v6)] [] h := by
  unfold f_M_numbers_b101
  refine gk_aload_n (pc := 101) 0 d_M_numbers_101 rfl ?_
  refine gk_getI (pc := 102) 7 11 d_M_numbers_102 rfl (Nat.le_of_ble_eq_true rfl) tw_1656 fun x1 => ?_
  refine gk_if_ne (pc := 105) 132 d_M_numbers_105 rfl (fun _ => ?_) (fun _ => ?_)
  · refine gk_aload_n (pc := 108) 0 d_M_numbers_108 rfl ?_
    refine gk_aload_n (pc := 109) 0 d_M_numbers_109 rfl ?_
    refine gk_dload (pc := 110) 2 d_M_numbers_110 rfl ?_
    refine gk_lload (pc := 112) 3 d_M_numbers_112 rfl ?_
    refine gk_l2i (pc := 114) d_M_numbers_114 ?_
    refine gk_iload_n (pc := 115) 1 d_M_numbers_115 rfl ?_
    refine gk_bipush (pc := 116) (34 : Int32) d_M_numbers_116 rfl ?_
    refine gk_icmp_ne (pc := 118) 125 d_M_numbers_118 rfl (fun _ => ?_) (fun _ => ?_)
    · refine gk_iconst (pc := 121) (1 : Int32) d_M_numbers_121 rfl ?_
      refine gk_goto (pc := 122) 126 d_M_numbers_122 rfl ?_
      refine gk_weak [] (L' := []) rfl ?_
      exact p_M_numbers_b126 d v0 v0 v4 (Int64.toInt32 v6) (1 : Int32) h
    · refine gk_iconst (pc := 125) (0 : Int32) d_M_numbers_125 rfl ?_
      refine gk_weak [] (L' := []) rfl ?_
      exact p_M_numbers_b126 d v0 v0 v4 (Int64.toInt32 v6) (0 : Int32) h
  · refine gk_weak [] (L' := []) rfl ?_
    exact p_M_numbers_b132 d h
theorem p_M_numbers_b95 (d : Nat)  (v0 : Option Nat) (v1 : Int32) (v4 : UInt64) (v6 : Int64) (h : gk_H) : gk_P gw_V (d + 6) y_M_numbers b_M_numbers 8 none [] (f_M_numbers_b95  v0 v1 v4 v6 h) 95 [(0, va_rf v0), (1, .int v1), (4, .double v4), (6, .long v6)] [] h := by
  unfold f_M_numbers_b95
  refine gk_aload_n (pc := 95) 0 d_M_numbers_95 rfl ?_
  refine gk_bipush (pc := 96) (6 : Int32) d_M_numbers_96 rfl ?_
  refine gk_callV (pc := 98) (d := (d + 5)) (w' := gv_V) (as := [.int (6 : Int32)]) (n := 1) 7 d_M_numbers_98 rfl rfl rfl rfl (Nat.le_of_ble_eq_true rfl) tw_1805 tw_1807 tw_21 tw_99 cw_M_fail hy_M_fail (Nat.le_of_ble_eq_true rfl) (p_M_fail (d + 5) v0 (6 : Int32) h) fun _ h1 => ?_
  exact p_M_numbers_b101 d v0 v1 v4 v6 h1
theorem p_M_numbers_b68 (d : Nat)  (v0 : Option Nat) (v1 : Int32) (v4 : UInt64) (s0 : Int64) (h : gk_H) : gk_P gw_V (d + 6) y_M_numbers b_M_numbers 8 none [] (f_M_numbers_b68  v0 v1 v4 s0 h) 68 [(0, va_rf v0), (1, .int v1), (4, .double v4)] [.long s0] h := by
  unfold f_M_numbers_b68
  refine gk_lstore (pc := 68) (L' := [(6, .long s0), (0, va_rf v0), (1, .int v1), (4, .double v4)]) d_M_numbers_68 (Nat.le_of_ble_eq_true rfl) rfl ?_
  refine gk_aload_n (pc := 70) 1 d_M_numbers_70 rfl ?_
  refine gk_getI (pc := 71) 7 11 d_M_numbers_71 rfl (Nat.le_of_ble_eq_true rfl) tw_1656 fun x1 => ?_
  refine gk_if_ne (pc := 74) 101 d_M_numbers_74 rfl (fun _ => ?_) (fun _ => ?_)
  · refine gk_lload (pc := 77) 0 d_M_numbers_77 rfl ?_
    refine gk_ldc2 (pc := 79) tw_2021 d_M_numbers_79 ?_
    refine gk_lcmp (pc := 82) d_M_numbers_82 ?_
    refine gk_if_lt (pc := 83) 95 d_M_numbers_83 rfl (fun _ => ?_) (fun _ => ?_)
    · refine gk_weak [1, 2, 3, 0] (L' := [(0, va_rf v0), (1, .int v1), (4, .double v4), (6, .long s0)]) rfl ?_
      exact p_M_numbers_b95 d v0 v1 v4 s0 h
    · refine gk_lload (pc := 86) 0 d_M_numbers_86 rfl ?_
      refine gk_ldc2 (pc := 88) tw_2022 d_M_numbers_88 ?_
      refine gk_lcmp (pc := 91) d_M_numbers_91 ?_
      refine gk_if_le (pc := 92) 101 d_M_numbers_92 rfl (fun _ => ?_) (fun _ => ?_)
      · refine gk_weak [1, 2, 3, 0] (L' := [(0, va_rf v0), (1, .int v1), (4, .double v4), (6, .long s0)]) rfl ?_
        exact p_M_numbers_b101 d v0 v1 v4 s0 h
      · refine gk_weak [1, 2, 3, 0] (L' := [(0, va_rf v0), (1, .int v1), (4, .double v4), (6, .long s0)]) rfl ?_
        exact p_M_numbers_b95 d v0 v1 v4 s0 h
  · refine gk_weak [1, 2, 3, 0] (L' := [(0, va_rf v0), (1, .int v1), (4, .double v4), (6, .long s0)]) rfl ?_
    exact p_M_numbers_b101 d v0 v1 v4 s0 h
theorem w_M_numbers (d : Nat) (a0 : Option Nat) (a1 : Int32) (a2 : Int32) (a3 : Int32) (h : gk_H) : gk_P gw_V (d + 6) y_M_numbers b_M_numbers 8 none [] (f_M_numbers a0 a1 a2 a3 h) 0 [(0, va_rf a0), (1, .int a1), (2, .int a2), (3, .int a3)] [] h := by
  unfold f_M_numbers
  refine gk_iload_n (pc := 0) 1 d_M_numbers_0 rfl ?_
  refine gk_bipush (pc := 1) (25 : Int32) d_M_numbers_1 rfl ?_
  refine gk_icmp_eq (pc := 3) 12 d_M_numbers_3 rfl (fun _ => ?_) (fun _ => ?_)
  · exact p_M_numbers_b12 d a0 a1 a2 a3 h
  · refine gk_iload_n (pc := 6) 1 d_M_numbers_6 rfl ?_
    refine gk_bipush (pc := 7) (26 : Int32) d_M_numbers_7 rfl ?_
    refine gk_icmp_ne (pc := 9) 20 d_M_numbers_9 rfl (fun _ => ?_) (fun _ => ?_)
    · exact p_M_numbers_b12 d a0 a1 a2 a3 h
    · refine gk_iload_n (pc := 20) 1 d_M_numbers_20 rfl ?_
      refine gk_bipush (pc := 21) (27 : Int32) d_M_numbers_21 rfl ?_
      refine gk_icmp_eq (pc := 23) 32 d_M_numbers_23 rfl (fun _ => ?_) (fun _ => ?_)
      · refine gk_weak [0, 1, 2] (L' := [(0, va_rf a0), (1, .int a1), (2, .int a2)]) rfl ?_
        exact p_M_numbers_b32 d a0 a1 a2 h
      · refine gk_iload_n (pc := 26) 1 d_M_numbers_26 rfl ?_
        refine gk_bipush (pc := 27) (28 : Int32) d_M_numbers_27 rfl ?_
        refine gk_icmp_ne (pc := 29) 39 d_M_numbers_29 rfl (fun _ => ?_) (fun _ => ?_)
        · refine gk_weak [0, 1, 2] (L' := [(0, va_rf a0), (1, .int a1), (2, .int a2)]) rfl ?_
          exact p_M_numbers_b32 d a0 a1 a2 h
        · refine gk_aload_n (pc := 39) 0 d_M_numbers_39 rfl ?_
          refine gk_iload_n (pc := 40) 2 d_M_numbers_40 rfl ?_
          refine gk_callV (pc := 41) (d := (d + 5)) (w' := gv_D) (as := [.int a2]) (n := 1) 7 d_M_numbers_41 rfl rfl rfl rfl (Nat.le_of_ble_eq_true rfl) tw_1868 tw_1870 tw_31 tw_99 cw_M_wantNumber hy_M_wantNumber (Nat.le_of_ble_eq_true rfl) (p_M_wantNumber (d + 2) a0 a2 h) fun x1 h1 => ?_
          refine gk_dstore (pc := 44) (L' := [(4, .double x1), (0, va_rf a0), (1, .int a1), (2, .int a2), (3, .int a3)]) d_M_numbers_44 (Nat.le_of_ble_eq_true rfl) rfl ?_
          refine gk_iload_n (pc := 46) 2 d_M_numbers_46 rfl ?_
          refine gk_bipush (pc := 47) (32 : Int32) d_M_numbers_47 rfl ?_
          refine gk_icmp_le (pc := 49) 133 d_M_numbers_49 rfl (fun _ => ?_) (fun _ => ?_)
          · refine gk_iload_n (pc := 133) 4 d_M_numbers_133 rfl ?_
            refine gk_iconst (pc := 134) (2 : Int32) d_M_numbers_134 rfl ?_
            refine gk_icmp_ne (pc := 135) 148 d_M_numbers_135 rfl (fun _ => ?_) (fun _ => ?_)
            · refine gk_aload_n (pc := 138) 1 d_M_numbers_138 rfl ?_
              refine gk_iload_n (pc := 139) 3 d_M_numbers_139 rfl ?_
              refine gk_iconst (pc := 140) (1 : Int32) d_M_numbers_140 rfl ?_
              refine gk_iadd (pc := 141) d_M_numbers_141 ?_
              refine gk_callV (pc := 142) (d := (d + 5)) (w' := gv_D) (as := [.int (a2 + (1 : Int32))]) (n := 1) 7 d_M_numbers_142 rfl rfl rfl rfl (Nat.le_of_ble_eq_true rfl) tw_1868 tw_1870 tw_31 tw_99 cw_M_wantNumber hy_M_wantNumber (Nat.le_of_ble_eq_true rfl) (p_M_wantNumber (d + 2) a0 (a2 + (1 : Int32)) h1) fun x2 h2 => ?_
              refine gk_goto (pc := 145) 149 d_M_numbers_145 rfl ?_
              refine gk_weak [1, 2, 0] (L' := [(0, va_rf a0), (1, .int a1), (4, .double x1)]) rfl ?_
              exact p_M_numbers_b149 d a0 a1 x1 x2 h2
            · refine gk_dconst0 (pc := 148) d_M_numbers_148 ?_
              refine gk_weak [1, 2, 0] (L' := [(0, va_rf a0), (1, .int a1), (4, .double x1)]) rfl ?_
              exact p_M_numbers_b149 d a0 a1 x1 (0x0000000000000000) h1
          · refine gk_iload_n (pc := 52) 4 d_M_numbers_52 rfl ?_
            refine gk_iconst (pc := 53) (2 : Int32) d_M_numbers_53 rfl ?_
            refine gk_icmp_ne (pc := 54) 67 d_M_numbers_54 rfl (fun _ => ?_) (fun _ => ?_)
            · refine gk_aload_n (pc := 57) 1 d_M_numbers_57 rfl ?_
              refine gk_iload_n (pc := 58) 3 d_M_numbers_58 rfl ?_
              refine gk_iconst (pc := 59) (1 : Int32) d_M_numbers_59 rfl ?_
              refine gk_iadd (pc := 60) d_M_numbers_60 ?_
              refine gk_callV (pc := 61) (d := (d + 5)) (w' := gv_J) (as := [.int (a2 + (1 : Int32))]) (n := 1) 7 d_M_numbers_61 rfl rfl rfl rfl (Nat.le_of_ble_eq_true rfl) tw_1954 tw_1956 tw_45 tw_99 cw_M_wantWhole hy_M_wantWhole (Nat.le_of_ble_eq_true rfl) (p_M_wantWhole (d + 1) a0 (a2 + (1 : Int32)) h1) fun x3 h3 => ?_
              refine gk_goto (pc := 64) 68 d_M_numbers_64 rfl ?_
              refine gk_weak [1, 2, 0] (L' := [(0, va_rf a0), (1, .int a1), (4, .double x1)]) rfl ?_
              exact p_M_numbers_b68 d a0 a1 x1 x3 h3
            · refine gk_lconst (pc := 67) (0 : Int64) d_M_numbers_67 rfl ?_
              refine gk_weak [1, 2, 0] (L' := [(0, va_rf a0), (1, .int a1), (4, .double x1)]) rfl ?_
              exact p_M_numbers_b68 d a0 a1 x1 (0 : Int64) h1
theorem p_M_numbers (d : Nat) (a0 : Option Nat) (a1 : Int32) (a2 : Int32) (a3 : Int32) (h : gk_H) : ∀ r h1, f_M_numbers a0 a1 a2 a3 h = some (r, h1) → gk_M (d + 6) y_M_numbers b_M_numbers 8 none [va_rf a0, .int a1, .int a2, .int a3] h (.inl (gv_V r)) h1 :=
  fun r h1 e => gk_M_of2 (by decide +kernel) (by simp [lv_args, gk_cat_rf, gk_catI, gk_catJ, gk_catD, gv_V, gv_I, gv_J, gv_D, gv_R]) (by simp [lg_sl, gk_cat_rf, gk_catI, gk_catJ, gk_catD, gv_V, gv_I, gv_J, gv_D, gv_R]) (w_M_numbers d a0 a1 a2 a3 h r h1 e)
theorem d_M_truthOf_0 : decode b_M_truthOf 0 = .ok (.aload_n 0, 1) := by decide +kernel
theorem d_M_truthOf_1 : decode b_M_truthOf 1 = .ok (.getfield 23, 3) := by decide +kernel
theorem d_M_truthOf_4 : decode b_M_truthOf 4 = .ok (.iload_n 1, 1) := by decide +kernel
theorem d_M_truthOf_5 : decode b_M_truthOf 5 = .ok (.iaload, 1) := by decide +kernel
theorem d_M_truthOf_6 : decode b_M_truthOf 6 = .ok (.iconst 4, 1) := by decide +kernel
theorem d_M_truthOf_7 : decode b_M_truthOf 7 = .ok (.if_icmp .ne 14, 3) := by decide +kernel
theorem d_M_truthOf_10 : decode b_M_truthOf 10 = .ok (.aload_n 0, 1) := by decide +kernel
theorem d_M_truthOf_11 : decode b_M_truthOf 11 = .ok (.aload_n 0, 1) := by decide +kernel
theorem d_M_truthOf_12 : decode b_M_truthOf 12 = .ok (.getfield 26, 3) := by decide +kernel
theorem d_M_truthOf_15 : decode b_M_truthOf 15 = .ok (.iload_n 1, 1) := by decide +kernel
theorem d_M_truthOf_16 : decode b_M_truthOf 16 = .ok (.daload, 1) := by decide +kernel
theorem d_M_truthOf_17 : decode b_M_truthOf 17 = .ok (.d2i, 1) := by decide +kernel
theorem d_M_truthOf_18 : decode b_M_truthOf 18 = .ok (.invokevirtual 58, 3) := by decide +kernel
theorem d_M_truthOf_21 : decode b_M_truthOf 21 = .ok (.aload_n 0, 1) := by decide +kernel
theorem d_M_truthOf_22 : decode b_M_truthOf 22 = .ok (.getfield 23, 3) := by decide +kernel
theorem d_M_truthOf_25 : decode b_M_truthOf 25 = .ok (.iload_n 1, 1) := by decide +kernel
theorem d_M_truthOf_26 : decode b_M_truthOf 26 = .ok (.iaload, 1) := by decide +kernel
theorem d_M_truthOf_27 : decode b_M_truthOf 27 = .ok (.iconst 4, 1) := by decide +kernel
theorem d_M_truthOf_28 : decode b_M_truthOf 28 = .ok (.if_icmp .eq 12, 3) := by decide +kernel
theorem d_M_truthOf_31 : decode b_M_truthOf 31 = .ok (.aload_n 0, 1) := by decide +kernel
theorem d_M_truthOf_32 : decode b_M_truthOf 32 = .ok (.getfield 23, 3) := by decide +kernel
theorem d_M_truthOf_35 : decode b_M_truthOf 35 = .ok (.iload_n 1, 1) := by decide +kernel
theorem d_M_truthOf_36 : decode b_M_truthOf 36 = .ok (.iaload, 1) := by decide +kernel
theorem d_M_truthOf_37 : decode b_M_truthOf 37 = .ok (.ifCond .ne 5, 3) := by decide +kernel
theorem d_M_truthOf_40 : decode b_M_truthOf 40 = .ok (.iconst 0, 1) := by decide +kernel
theorem d_M_truthOf_41 : decode b_M_truthOf 41 = .ok (.ireturn, 1) := by decide +kernel
theorem d_M_truthOf_42 : decode b_M_truthOf 42 = .ok (.aload_n 0, 1) := by decide +kernel
theorem d_M_truthOf_43 : decode b_M_truthOf 43 = .ok (.getfield 23, 3) := by decide +kernel
theorem d_M_truthOf_46 : decode b_M_truthOf 46 = .ok (.iload_n 1, 1) := by decide +kernel
theorem d_M_truthOf_47 : decode b_M_truthOf 47 = .ok (.iaload, 1) := by decide +kernel
theorem d_M_truthOf_48 : decode b_M_truthOf 48 = .ok (.iconst 2, 1) := by decide +kernel
theorem d_M_truthOf_49 : decode b_M_truthOf 49 = .ok (.if_icmp .eq 20, 3) := by decide +kernel
theorem d_M_truthOf_52 : decode b_M_truthOf 52 = .ok (.aload_n 0, 1) := by decide +kernel
theorem d_M_truthOf_53 : decode b_M_truthOf 53 = .ok (.getfield 26, 3) := by decide +kernel
theorem d_M_truthOf_56 : decode b_M_truthOf 56 = .ok (.iload_n 1, 1) := by decide +kernel
theorem d_M_truthOf_57 : decode b_M_truthOf 57 = .ok (.daload, 1) := by decide +kernel
theorem d_M_truthOf_58 : decode b_M_truthOf 58 = .ok (.dconst 0, 1) := by decide +kernel
theorem d_M_truthOf_59 : decode b_M_truthOf 59 = .ok (.dcmp .l, 1) := by decide +kernel
theorem d_M_truthOf_60 : decode b_M_truthOf 60 = .ok (.ifCond .eq 7, 3) := by decide +kernel
theorem d_M_truthOf_63 : decode b_M_truthOf 63 = .ok (.iconst 1, 1) := by decide +kernel
theorem d_M_truthOf_64 : decode b_M_truthOf 64 = .ok (.goto 4, 3) := by decide +kernel
theorem d_M_truthOf_67 : decode b_M_truthOf 67 = .ok (.iconst 0, 1) := by decide +kernel
theorem d_M_truthOf_68 : decode b_M_truthOf 68 = .ok (.ireturn, 1) := by decide +kernel
theorem d_M_truthOf_69 : decode b_M_truthOf 69 = .ok (.iconst 4, 1) := by decide +kernel
theorem d_M_truthOf_70 : decode b_M_truthOf 70 = .ok (.istore_n 2, 1) := by decide +kernel
theorem d_M_truthOf_71 : decode b_M_truthOf 71 = .ok (.iload_n 2, 1) := by decide +kernel
theorem d_M_truthOf_72 : decode b_M_truthOf 72 = .ok (.bipush 6, 2) := by decide +kernel
theorem d_M_truthOf_74 : decode b_M_truthOf 74 = .ok (.if_icmp .ge 90, 3) := by decide +kernel
theorem d_M_truthOf_77 : decode b_M_truthOf 77 = .ok (.aload_n 0, 1) := by decide +kernel
theorem d_M_truthOf_78 : decode b_M_truthOf 78 = .ok (.getfield 30, 3) := by decide +kernel
theorem d_M_truthOf_81 : decode b_M_truthOf 81 = .ok (.iload_n 1, 1) := by decide +kernel
theorem d_M_truthOf_82 : decode b_M_truthOf 82 = .ok (.iaload, 1) := by decide +kernel
theorem d_M_truthOf_83 : decode b_M_truthOf 83 = .ok (.iload_n 2, 1) := by decide +kernel
theorem d_M_truthOf_84 : decode b_M_truthOf 84 = .ok (.if_icmp .ne 7, 3) := by decide +kernel
theorem d_M_truthOf_87 : decode b_M_truthOf 87 = .ok (.iconst 1, 1) := by decide +kernel
theorem d_M_truthOf_88 : decode b_M_truthOf 88 = .ok (.goto 4, 3) := by decide +kernel
theorem d_M_truthOf_91 : decode b_M_truthOf 91 = .ok (.iconst 0, 1) := by decide +kernel
theorem d_M_truthOf_92 : decode b_M_truthOf 92 = .ok (.istore_n 3, 1) := by decide +kernel
theorem d_M_truthOf_93 : decode b_M_truthOf 93 = .ok (.iconst 0, 1) := by decide +kernel
theorem d_M_truthOf_94 : decode b_M_truthOf 94 = .ok (.istore 4, 2) := by decide +kernel
theorem d_M_truthOf_96 : decode b_M_truthOf 96 = .ok (.iload 4, 2) := by decide +kernel
theorem d_M_truthOf_98 : decode b_M_truthOf 98 = .ok (.iload_n 2, 1) := by decide +kernel
theorem d_M_truthOf_99 : decode b_M_truthOf 99 = .ok (.if_icmp .ge 44, 3) := by decide +kernel
theorem d_M_truthOf_102 : decode b_M_truthOf 102 = .ok (.iload_n 3, 1) := by decide +kernel
theorem d_M_truthOf_103 : decode b_M_truthOf 103 = .ok (.ifCond .eq 40, 3) := by decide +kernel
theorem d_M_truthOf_106 : decode b_M_truthOf 106 = .ok (.aload_n 0, 1) := by decide +kernel
theorem d_M_truthOf_107 : decode b_M_truthOf 107 = .ok (.getfield 34, 3) := by decide +kernel
theorem d_M_truthOf_110 : decode b_M_truthOf 110 = .ok (.sipush 256, 3) := by decide +kernel
theorem d_M_truthOf_113 : decode b_M_truthOf 113 = .ok (.iload_n 1, 1) := by decide +kernel
theorem d_M_truthOf_114 : decode b_M_truthOf 114 = .ok (.imul, 1) := by decide +kernel
theorem d_M_truthOf_115 : decode b_M_truthOf 115 = .ok (.iload 4, 2) := by decide +kernel
theorem d_M_truthOf_117 : decode b_M_truthOf 117 = .ok (.iadd, 1) := by decide +kernel
theorem d_M_truthOf_118 : decode b_M_truthOf 118 = .ok (.baload, 1) := by decide +kernel
theorem d_M_truthOf_119 : decode b_M_truthOf 119 = .ok (.invokestatic 158, 3) := by decide +kernel
theorem d_M_truthOf_122 : decode b_M_truthOf 122 = .ok (.iload_n 2, 1) := by decide +kernel
theorem d_M_truthOf_123 : decode b_M_truthOf 123 = .ok (.iload 4, 2) := by decide +kernel
theorem d_M_truthOf_125 : decode b_M_truthOf 125 = .ok (.invokestatic 148, 3) := by decide +kernel
theorem d_M_truthOf_128 : decode b_M_truthOf 128 = .ok (.if_icmp .ne 7, 3) := by decide +kernel
theorem d_M_truthOf_131 : decode b_M_truthOf 131 = .ok (.iconst 1, 1) := by decide +kernel
theorem d_M_truthOf_132 : decode b_M_truthOf 132 = .ok (.goto 4, 3) := by decide +kernel
theorem d_M_truthOf_135 : decode b_M_truthOf 135 = .ok (.iconst 0, 1) := by decide +kernel
theorem d_M_truthOf_136 : decode b_M_truthOf 136 = .ok (.istore_n 3, 1) := by decide +kernel
theorem d_M_truthOf_137 : decode b_M_truthOf 137 = .ok (.iinc 4 1, 3) := by decide +kernel
theorem d_M_truthOf_140 : decode b_M_truthOf 140 = .ok (.goto (-44), 3) := by decide +kernel
theorem d_M_truthOf_143 : decode b_M_truthOf 143 = .ok (.iload_n 3, 1) := by decide +kernel
theorem d_M_truthOf_144 : decode b_M_truthOf 144 = .ok (.ifCond .eq 14, 3) := by decide +kernel
theorem d_M_truthOf_147 : decode b_M_truthOf 147 = .ok (.iload_n 2, 1) := by decide +kernel
theorem d_M_truthOf_148 : decode b_M_truthOf 148 = .ok (.iconst 4, 1) := by decide +kernel
theorem d_M_truthOf_149 : decode b_M_truthOf 149 = .ok (.if_icmp .ne 7, 3) := by decide +kernel
theorem d_M_truthOf_152 : decode b_M_truthOf 152 = .ok (.iconst 1, 1) := by decide +kernel
theorem d_M_truthOf_153 : decode b_M_truthOf 153 = .ok (.goto 4, 3) := by decide +kernel
theorem d_M_truthOf_156 : decode b_M_truthOf 156 = .ok (.iconst 0, 1) := by decide +kernel
theorem d_M_truthOf_157 : decode b_M_truthOf 157 = .ok (.ireturn, 1) := by decide +kernel
theorem d_M_truthOf_158 : decode b_M_truthOf 158 = .ok (.iinc 2 1, 3) := by decide +kernel
theorem d_M_truthOf_161 : decode b_M_truthOf 161 = .ok (.goto (-90), 3) := by decide +kernel
theorem d_M_truthOf_164 : decode b_M_truthOf 164 = .ok (.aload_n 0, 1) := by decide +kernel
theorem d_M_truthOf_165 : decode b_M_truthOf 165 = .ok (.iconst 3, 1) := by decide +kernel
theorem d_M_truthOf_166 : decode b_M_truthOf 166 = .ok (.invokevirtual 58, 3) := by decide +kernel
theorem d_M_truthOf_169 : decode b_M_truthOf 169 = .ok (.iconst 0, 1) := by decide +kernel
theorem d_M_truthOf_170 : decode b_M_truthOf 170 = .ok (.ireturn, 1) := by decide +kernel
theorem p_M_truthOf_b40 (d : Nat)   (h : gk_H) : gk_P gw_I (d + 1) y_M_truthOf b_M_truthOf 5 (some .boolean) [] (f_M_truthOf_b40   h) 40 [] [] h := by
  unfold f_M_truthOf_b40
  refine gk_iconst (pc := 40) (0 : Int32) d_M_truthOf_40 rfl ?_
  exact gk_zret (pc := 41) rfl d_M_truthOf_41 rfl
theorem p_M_truthOf_b157 (d : Nat)  (s0 : Int32) (h : gk_H) : gk_P gw_I (d + 1) y_M_truthOf b_M_truthOf 5 (some .boolean) [] (f_M_truthOf_b157  s0 h) 157 [] [.int s0] h := by
  unfold f_M_truthOf_b157
  exact gk_zret (pc := 157) rfl d_M_truthOf_157 rfl
theorem p_M_truthOf_b143 (d : Nat) (b71 : Option Nat → Int32 → Int32 → gk_H → Option (Int32 × gk_H)) (q71 : ∀ (v0 : Option Nat) (v1 : Int32) (v2 : Int32) (h : gk_H), gk_P gw_I (d + 1) y_M_truthOf b_M_truthOf 5 (some .boolean) [] (b71 v0 v1 v2 h) 71 [(0, va_rf v0), (1, .int v1), (2, .int v2)] [] h) (v0 : Option Nat) (v1 : Int32) (v2 : Int32) (v3 : Int32) (h : gk_H) : gk_P gw_I (d + 1) y_M_truthOf b_M_truthOf 5 (some .boolean) [] (f_M_truthOf_b143 b71 v0 v1 v2 v3 h) 143 [(0, va_rf v0), (1, .int v1), (2, .int v2), (3, .int v3)] [] h := by
  unfold f_M_truthOf_b143
  refine gk_iload_n (pc := 143) 3 d_M_truthOf_143 rfl ?_
  refine gk_if_eq (pc := 144) 158 d_M_truthOf_144 rfl (fun _ => ?_) (fun _ => ?_)
  · refine gk_iincN (pc := 158) 2 (1 : Int32) (L' := fun x1 => [(2, .int x1), (0, va_rf v0), (1, .int v1), (3, .int v3)]) d_M_truthOf_158 rfl rfl (Nat.le_of_ble_eq_true rfl) (fun _ => rfl) fun x1 => ?_
    refine gk_goto (pc := 161) 71 d_M_truthOf_161 rfl ?_
    refine gk_weak [1, 2, 0] (L' := [(0, va_rf v0), (1, .int v1), (2, .int x1)]) rfl ?_
    exact q71 v0 v1 x1 h
  · refine gk_iload_n (pc := 147) 2 d_M_truthOf_147 rfl ?_
    refine gk_iconst (pc := 148) (4 : Int32) d_M_truthOf_148 rfl ?_
    refine gk_icmp_ne (pc := 149) 156 d_M_truthOf_149 rfl (fun _ => ?_) (fun _ => ?_)
    · refine gk_iconst (pc := 152) (1 : Int32) d_M_truthOf_152 rfl ?_
      refine gk_goto (pc := 153) 157 d_M_truthOf_153 rfl ?_
      refine gk_weak [] (L' := []) rfl ?_
      exact p_M_truthOf_b157 d (1 : Int32) h
    · refine gk_iconst (pc := 156) (0 : Int32) d_M_truthOf_156 rfl ?_
      refine gk_weak [] (L' := []) rfl ?_
      exact p_M_truthOf_b157 d (0 : Int32) h
theorem p_M_truthOf_b136 (d : Nat) (b71 : Option Nat → Int32 → Int32 → gk_H → Option (Int32 × gk_H)) (q71 : ∀ (v0 : Option Nat) (v1 : Int32) (v2 : Int32) (h : gk_H), gk_P gw_I (d + 1) y_M_truthOf b_M_truthOf 5 (some .boolean) [] (b71 v0 v1 v2 h) 71 [(0, va_rf v0), (1, .int v1), (2, .int v2)] [] h) (b96 : Option Nat → Int32 → Int32 → Int32 → Int32 → gk_H → Option (Int32 × gk_H)) (q96 : ∀ (v0 : Option Nat) (v1 : Int32) (v2 : Int32) (v3 : Int32) (v4 : Int32) (h : gk_H), gk_P gw_I (d + 1) y_M_truthOf b_M_truthOf 5 (some .boolean) [] (b96 v0 v1 v2 v3 v4 h) 96 [(0, va_rf v0), (1, .int v1), (2, .int v2), (3, .int v3), (4, .int v4)] [] h) (v0 : Option Nat) (v1 : Int32) (v2 : Int32) (v4 : Int32) (s0 : Int32) (h : gk_H) : gk_P gw_I (d + 1) y_M_truthOf b_M_truthOf 5 (some .boolean) [] (f_M_truthOf_b136 b71 b96 v0 v1 v2 v4 s0 h) 136 [(0, va_rf v0), (1, .int v1), (2, .int v2), (4, .int v4)] [.int s0] h := by
  unfold f_M_truthOf_b136
  refine gk_istore_n (pc := 136) (L' := [(3, .int s0), (0, va_rf v0), (1, .int v1), (2, .int v2), (4, .int v4)]) d_M_truthOf_136 (Nat.le_of_ble_eq_true rfl) rfl ?_
  refine gk_iincN (pc := 137) 4 (1 : Int32) (L' := fun x1 => [(4, .int x1), (3, .int s0), (0, va_rf v0), (1, .int v1), (2, .int v2)]) d_M_truthOf_137 rfl rfl (Nat.le_of_ble_eq_true rfl) (fun _ => rfl) fun x1 => ?_
  refine gk_goto (pc := 140) 96 d_M_truthOf_140 rfl ?_
  refine gk_weak [2, 3, 4, 1, 0] (L' := [(0, va_rf v0), (1, .int v1), (2, .int v2), (3, .int s0), (4, .int x1)]) rfl ?_
  exact q96 v0 v1 v2 s0 x1 h
theorem p_M_truthOf_b96 (d : Nat) (b71 : Option Nat → Int32 → Int32 → gk_H → Option (Int32 × gk_H)) (q71 : ∀ (v0 : Option Nat) (v1 : Int32) (v2 : Int32) (h : gk_H), gk_P gw_I (d + 1) y_M_truthOf b_M_truthOf 5 (some .boolean) [] (b71 v0 v1 v2 h) 71 [(0, va_rf v0), (1, .int v1), (2, .int v2)] [] h) : ∀ (fu : Nat) (v0 : Option Nat) (v1 : Int32) (v2 : Int32) (v3 : Int32) (v4 : Int32) (h : gk_H), gk_P gw_I (d + 1) y_M_truthOf b_M_truthOf 5 (some .boolean) [] (f_M_truthOf_b96 b71 fu v0 v1 v2 v3 v4 h) 96 [(0, va_rf v0), (1, .int v1), (2, .int v2), (3, .int v3), (4, .int v4)] [] h := by
  intro fu
  induction fu with
  | zero => intros; exact gk_none
  | succ fu q96 =>
    intro v0 v1 v2 v3 v4 h
    rw [f_M_truthOf_b96]
    refine gk_iload (pc := 96) 4 d_M_truthOf_96 rfl ?_
    refine gk_iload_n (pc := 98) 2 d_M_truthOf_98 rfl ?_
    refine gk_icmp_ge (pc := 99) 143 d_M_truthOf_99 rfl (fun _ => ?_) (fun _ => ?_)
    · refine gk_weak [0, 1, 2, 3] (L' := [(0, va_rf v0), (1, .int v1), (2, .int v2), (3, .int v3)]) rfl ?_
      exact p_M_truthOf_b143 d b71 q71 v0 v1 v2 v3 h
    · refine gk_iload_n (pc := 102) 3 d_M_truthOf_102 rfl ?_
      refine gk_if_eq (pc := 103) 143 d_M_truthOf_103 rfl (fun _ => ?_) (fun _ => ?_)
      · refine gk_weak [0, 1, 2, 3] (L' := [(0, va_rf v0), (1, .int v1), (2, .int v2), (3, .int v3)]) rfl ?_
        exact p_M_truthOf_b143 d b71 q71 v0 v1 v2 v3 h
      · refine gk_aload_n (pc := 106) 0 d_M_truthOf_106 rfl ?_
        refine gk_getR (pc := 107) 7 10 d_M_truthOf_107 rfl (Nat.le_of_ble_eq_true rfl) tw_1655 fun x1 => ?_
        refine gk_sipush (pc := 110) (256 : Int32) d_M_truthOf_110 rfl ?_
        refine gk_iload_n (pc := 113) 1 d_M_truthOf_113 rfl ?_
        refine gk_imul (pc := 114) d_M_truthOf_114 ?_
        refine gk_iload (pc := 115) 4 d_M_truthOf_115 rfl ?_
        refine gk_iadd (pc := 117) d_M_truthOf_117 ?_
        refine gk_bald (pc := 118) d_M_truthOf_118 fun x2 => ?_
        refine gk_callS (pc := 119) (d := d) (w' := gv_I) (as := [.int x2]) (n := 1) d_M_truthOf_119 rfl rfl (Nat.le_of_ble_eq_true rfl) tw_1817 tw_1818 tw_99 cw_M_great hy_M_great (Nat.le_of_ble_eq_true rfl) (p_M_great d x2 h) fun x3 h1 => ?_
        refine gk_iload_n (pc := 122) 2 d_M_truthOf_122 rfl ?_
        refine gk_iload (pc := 123) 4 d_M_truthOf_123 rfl ?_
        refine gk_callS (pc := 125) (d := d) (w' := gv_I) (as := [.int v2, .int v4]) (n := 2) d_M_truthOf_125 rfl rfl (Nat.le_of_ble_eq_true rfl) tw_1853 tw_1854 tw_99 cw_M_truthLetter hy_M_truthLetter (Nat.le_of_ble_eq_true rfl) (p_M_truthLetter d v2 v4 h1) fun x4 h2 => ?_
        refine gk_icmp_ne (pc := 128) 135 d_M_truthOf_128 rfl (fun _ => ?_) (fun _ => ?_)
        · refine gk_iconst (pc := 131) (1 : Int32) d_M_truthOf_131 rfl ?_
          refine gk_goto (pc := 132) 136 d_M_truthOf_132 rfl ?_
          refine gk_weak [0, 1, 2, 4] (L' := [(0, va_rf v0), (1, .int v1), (2, .int v2), (4, .int v4)]) rfl ?_
          exact p_M_truthOf_b136 d b71 q71 (f_M_truthOf_b96 b71 fu) q96 v0 v1 v2 v4 (1 : Int32) h2
        · refine gk_iconst (pc := 135) (0 : Int32) d_M_truthOf_135 rfl ?_
          refine gk_weak [0, 1, 2, 4] (L' := [(0, va_rf v0), (1, .int v1), (2, .int v2), (4, .int v4)]) rfl ?_
          exact p_M_truthOf_b136 d b71 q71 (f_M_truthOf_b96 b71 fu) q96 v0 v1 v2 v4 (0 : Int32) h2
theorem p_M_truthOf_b92 (d : Nat) (b71 : Option Nat → Int32 → Int32 → gk_H → Option (Int32 × gk_H)) (q71 : ∀ (v0 : Option Nat) (v1 : Int32) (v2 : Int32) (h : gk_H), gk_P gw_I (d + 1) y_M_truthOf b_M_truthOf 5 (some .boolean) [] (b71 v0 v1 v2 h) 71 [(0, va_rf v0), (1, .int v1), (2, .int v2)] [] h) (v0 : Option Nat) (v1 : Int32) (v2 : Int32) (s0 : Int32) (h : gk_H) : gk_P gw_I (d + 1) y_M_truthOf b_M_truthOf 5 (some .boolean) [] (f_M_truthOf_b92 b71 v0 v1 v2 s0 h) 92 [(0, va_rf v0), (1, .int v1), (2, .int v2)] [.int s0] h := by
  unfold f_M_truthOf_b92
  refine gk_istore_n (pc := 92) (L' := [(3, .int s0), (0, va_rf v0), (1, .int v1), (2, .int v2)]) d_M_truthOf_92 (Nat.le_of_ble_eq_true rfl) rfl ?_
  refine gk_iconst (pc := 93) (0 : Int32) d_M_truthOf_93 rfl ?_
  refine gk_istore (pc := 94) (L' := [(4, .int (0 : Int32)), (3, .int s0), (0, va_rf v0), (1, .int v1), (2, .int v2)]) d_M_truthOf_94 (Nat.le_of_ble_eq_true rfl) rfl ?_
  refine gk_weak [2, 3, 4, 1, 0] (L' := [(0, va_rf v0), (1, .int v1), (2, .int v2), (3, .int s0), (4, .int (0 : Int32))]) rfl ?_
  exact p_M_truthOf_b96 d b71 q71 gk_F v0 v1 v2 s0 (0 : Int32) h
theorem p_M_truthOf_b71 (d : Nat)  : ∀ (fu : Nat) (v0 : Option Nat) (v1 : Int32) (v2 : Int32) (h : gk_H), gk_P gw_I (d + 1) y_M_truthOf b_M_truthOf 5 (some .boolean) [] (f_M_truthOf_b71  fu v0 v1 v2 h) 71 [(0, va_rf v0), (1, .int v1), (2, .int v2)] [] h := by
  intro fu
  induction fu with
  | zero => intros; exact gk_none
  | succ fu q71 =>
    intro v0 v1 v2 h
    rw [f_M_truthOf_b71]
    refine gk_iload_n (pc := 71) 2 d_M_truthOf_71 rfl ?_
    refine gk_bipush (pc := 72) (6 : Int32) d_M_truthOf_72 rfl ?_
    refine gk_icmp_ge (pc := 74) 164 d_M_truthOf_74 rfl (fun _ => ?_) (fun _ => ?_)
    · refine gk_aload_n (pc := 164) 0 d_M_truthOf_164 rfl ?_
      refine gk_iconst (pc := 165) (3 : Int32) d_M_truthOf_165 rfl ?_
      refine gk_callV (pc := 166) (d := d) (w' := gv_V) (as := [.int (3 : Int32)]) (n := 1) 7 d_M_truthOf_166 rfl rfl rfl rfl (Nat.le_of_ble_eq_true rfl) tw_1805 tw_1807 tw_21 tw_99 cw_M_fail hy_M_fail (Nat.le_of_ble_eq_true rfl) (p_M_fail d v0 (3 : Int32) h) fun _ h1 => ?_
      refine gk_iconst (pc := 169) (0 : Int32) d_M_truthOf_169 rfl ?_
      exact gk_zret (pc := 170) rfl d_M_truthOf_170 rfl
    · refine gk_aload_n (pc := 77) 0 d_M_truthOf_77 rfl ?_
      refine gk_getR (pc := 78) 7 9 d_M_truthOf_78 rfl (Nat.le_of_ble_eq_true rfl) tw_1654 fun x1 => ?_
      refine gk_iload_n (pc := 81) 1 d_M_truthOf_81 rfl ?_
      refine gk_iald (pc := 82) d_M_truthOf_82 fun x2 => ?_
      refine gk_iload_n (pc := 83) 2 d_M_truthOf_83 rfl ?_
      refine gk_icmp_ne (pc := 84) 91 d_M_truthOf_84 rfl (fun _ => ?_) (fun _ => ?_)
      · refine gk_iconst (pc := 87) (1 : Int32) d_M_truthOf_87 rfl ?_
        refine gk_goto (pc := 88) 92 d_M_truthOf_88 rfl ?_
        exact p_M_truthOf_b92 d (f_M_truthOf_b71 fu) q71 v0 v1 v2 (1 : Int32) h
      · refine gk_iconst (pc := 91) (0 : Int32) d_M_truthOf_91 rfl ?_
        exact p_M_truthOf_b92 d (f_M_truthOf_b71 fu) q71 v0 v1 v2 (0 : Int32) h
theorem p_M_truthOf_b68 (d : Nat)  (s0 : Int32) (h : gk_H) : gk_P gw_I (d + 1) y_M_truthOf b_M_truthOf 5 (some .boolean) [] (f_M_truthOf_b68  s0 h) 68 [] [.int s0] h := by
  unfold f_M_truthOf_b68
  exact gk_zret (pc := 68) rfl d_M_truthOf_68 rfl
theorem p_M_truthOf_b21 (d : Nat)  (v0 : Option Nat) (v1 : Int32) (h : gk_H) : gk_P gw_I (d + 1) y_M_truthOf b_M_truthOf 5 (some .boolean) [] (f_M_truthOf_b21  v0 v1 h) 21 [(0, va_rf v0), (1, .int v1)] [] h := by
  unfold f_M_truthOf_b21
  refine gk_aload_n (pc := 21) 0 d_M_truthOf_21 rfl ?_
  refine gk_getR (pc := 22) 7 7 d_M_truthOf_22 rfl (Nat.le_of_ble_eq_true rfl) tw_1652 fun x1 => ?_
  refine gk_iload_n (pc := 25) 1 d_M_truthOf_25 rfl ?_
  refine gk_iald (pc := 26) d_M_truthOf_26 fun x2 => ?_
  refine gk_iconst (pc := 27) (4 : Int32) d_M_truthOf_27 rfl ?_
  refine gk_icmp_eq (pc := 28) 40 d_M_truthOf_28 rfl (fun _ => ?_) (fun _ => ?_)
  · refine gk_weak [] (L' := []) rfl ?_
    exact p_M_truthOf_b40 d h
  · refine gk_aload_n (pc := 31) 0 d_M_truthOf_31 rfl ?_
    refine gk_getR (pc := 32) 7 7 d_M_truthOf_32 rfl (Nat.le_of_ble_eq_true rfl) tw_1652 fun x3 => ?_
    refine gk_iload_n (pc := 35) 1 d_M_truthOf_35 rfl ?_
    refine gk_iald (pc := 36) d_M_truthOf_36 fun x4 => ?_
    refine gk_if_ne (pc := 37) 42 d_M_truthOf_37 rfl (fun _ => ?_) (fun _ => ?_)
    · refine gk_weak [] (L' := []) rfl ?_
      exact p_M_truthOf_b40 d h
    · refine gk_aload_n (pc := 42) 0 d_M_truthOf_42 rfl ?_
      refine gk_getR (pc := 43) 7 7 d_M_truthOf_43 rfl (Nat.le_of_ble_eq_true rfl) tw_1652 fun x5 => ?_
      refine gk_iload_n (pc := 46) 1 d_M_truthOf_46 rfl ?_
      refine gk_iald (pc := 47) d_M_truthOf_47 fun x6 => ?_
      refine gk_iconst (pc := 48) (2 : Int32) d_M_truthOf_48 rfl ?_
      refine gk_icmp_eq (pc := 49) 69 d_M_truthOf_49 rfl (fun _ => ?_) (fun _ => ?_)
      · refine gk_iconst (pc := 69) (4 : Int32) d_M_truthOf_69 rfl ?_
        refine gk_istore_n (pc := 70) (L' := [(2, .int (4 : Int32)), (0, va_rf v0), (1, .int v1)]) d_M_truthOf_70 (Nat.le_of_ble_eq_true rfl) rfl ?_
        refine gk_weak [1, 2, 0] (L' := [(0, va_rf v0), (1, .int v1), (2, .int (4 : Int32))]) rfl ?_
        exact p_M_truthOf_b71 d gk_F v0 v1 (4 : Int32) h
      · refine gk_aload_n (pc := 52) 0 d_M_truthOf_52 rfl ?_
        refine gk_getR (pc := 53) 7 8 d_M_truthOf_53 rfl (Nat.le_of_ble_eq_true rfl) tw_1653 fun x7 => ?_
        refine gk_iload_n (pc := 56) 1 d_M_truthOf_56 rfl ?_
        refine gk_dald (pc := 57) d_M_truthOf_57 fun x8 => ?_
        refine gk_dconst0 (pc := 58) d_M_truthOf_58 ?_
        refine gk_dcmp (pc := 59) d_M_truthOf_59 ?_
        refine gk_if_eq (pc := 60) 67 d_M_truthOf_60 rfl (fun _ => ?_) (fun _ => ?_)
        · refine gk_iconst (pc := 67) (0 : Int32) d_M_truthOf_67 rfl ?_
          refine gk_weak [] (L' := []) rfl ?_
          exact p_M_truthOf_b68 d (0 : Int32) h
        · refine gk_iconst (pc := 63) (1 : Int32) d_M_truthOf_63 rfl ?_
          refine gk_goto (pc := 64) 68 d_M_truthOf_64 rfl ?_
          refine gk_weak [] (L' := []) rfl ?_
          exact p_M_truthOf_b68 d (1 : Int32) h
theorem w_M_truthOf (d : Nat) (a0 : Option Nat) (a1 : Int32) (h : gk_H) : gk_P gw_I (d + 1) y_M_truthOf b_M_truthOf 5 (some .boolean) [] (f_M_truthOf a0 a1 h) 0 [(0, va_rf a0), (1, .int a1)] [] h := by
  unfold f_M_truthOf
  refine gk_aload_n (pc := 0) 0 d_M_truthOf_0 rfl ?_
  refine gk_getR (pc := 1) 7 7 d_M_truthOf_1 rfl (Nat.le_of_ble_eq_true rfl) tw_1652 fun x1 => ?_
  refine gk_iload_n (pc := 4) 1 d_M_truthOf_4 rfl ?_
  refine gk_iald (pc := 5) d_M_truthOf_5 fun x2 => ?_
  refine gk_iconst (pc := 6) (4 : Int32) d_M_truthOf_6 rfl ?_
  refine gk_icmp_ne (pc := 7) 21 d_M_truthOf_7 rfl (fun _ => ?_) (fun _ => ?_)
  · refine gk_aload_n (pc := 10) 0 d_M_truthOf_10 rfl ?_
    refine gk_aload_n (pc := 11) 0 d_M_truthOf_11 rfl ?_
    refine gk_getR (pc := 12) 7 8 d_M_truthOf_12 rfl (Nat.le_of_ble_eq_true rfl) tw_1653 fun x3 => ?_
    refine gk_iload_n (pc := 15) 1 d_M_truthOf_15 rfl ?_
    refine gk_dald (pc := 16) d_M_truthOf_16 fun x4 => ?_
    refine gk_d2i (pc := 17) d_M_truthOf_17 ?_
    refine gk_callV (pc := 18) (d := d) (w' := gv_V) (as := [.int (FP.d2i x4)]) (n := 1) 7 d_M_truthOf_18 rfl rfl rfl rfl (Nat.le_of_ble_eq_true rfl) tw_1805 tw_1807 tw_21 tw_99 cw_M_fail hy_M_fail (Nat.le_of_ble_eq_true rfl) (p_M_fail d a0 (FP.d2i x4) h) fun _ h1 => ?_
    exact p_M_truthOf_b21 d a0 a1 h1
  · exact p_M_truthOf_b21 d a0 a1 h
theorem p_M_truthOf (d : Nat) (a0 : Option Nat) (a1 : Int32) (h : gk_H) : ∀ r h1, f_M_truthOf a0 a1 h = some (r, h1) → gk_M (d + 1) y_M_truthOf b_M_truthOf 5 (some .boolean) [va_rf a0, .int a1] h (.inl (gv_I r)) h1 :=
  fun r h1 e => gk_M_of2 (by decide +kernel) (by simp [lv_args, gk_cat_rf, gk_catI, gk_catJ, gk_catD, gv_V, gv_I, gv_J, gv_D, gv_R]) (by simp [lg_sl, gk_cat_rf, gk_catI, gk_catJ, gk_catD, gv_V, gv_I, gv_J, gv_D, gv_R]) (w_M_truthOf d a0 a1 h r h1 e)
theorem d_M_wantTruth_0 : decode b_M_wantTruth 0 = .ok (.aload_n 0, 1) := by decide +kernel
theorem d_M_wantTruth_1 : decode b_M_wantTruth 1 = .ok (.getfield 62, 3) := by decide +kernel
theorem d_M_wantTruth_4 : decode b_M_wantTruth 4 = .ok (.ifCond .le 5, 3) := by decide +kernel
theorem d_M_wantTruth_7 : decode b_M_wantTruth 7 = .ok (.iconst 0, 1) := by decide +kernel
theorem d_M_wantTruth_8 : decode b_M_wantTruth 8 = .ok (.ireturn, 1) := by decide +kernel
theorem d_M_wantTruth_9 : decode b_M_wantTruth 9 = .ok (.aload_n 0, 1) := by decide +kernel
theorem d_M_wantTruth_10 : decode b_M_wantTruth 10 = .ok (.iload_n 1, 1) := by decide +kernel
theorem d_M_wantTruth_11 : decode b_M_wantTruth 11 = .ok (.invokevirtual 126, 3) := by decide +kernel
theorem d_M_wantTruth_14 : decode b_M_wantTruth 14 = .ok (.istore_n 2, 1) := by decide +kernel
theorem d_M_wantTruth_15 : decode b_M_wantTruth 15 = .ok (.aload_n 0, 1) := by decide +kernel
theorem d_M_wantTruth_16 : decode b_M_wantTruth 16 = .ok (.getfield 62, 3) := by decide +kernel
theorem d_M_wantTruth_19 : decode b_M_wantTruth 19 = .ok (.ifCond .ne 15, 3) := by decide +kernel
theorem d_M_wantTruth_22 : decode b_M_wantTruth 22 = .ok (.aload_n 0, 1) := by decide +kernel
theorem d_M_wantTruth_23 : decode b_M_wantTruth 23 = .ok (.iload_n 2, 1) := by decide +kernel
theorem d_M_wantTruth_24 : decode b_M_wantTruth 24 = .ok (.invokevirtual 161, 3) := by decide +kernel
theorem d_M_wantTruth_27 : decode b_M_wantTruth 27 = .ok (.ifCond .eq 7, 3) := by decide +kernel
theorem d_M_wantTruth_30 : decode b_M_wantTruth 30 = .ok (.iconst 1, 1) := by decide +kernel
theorem d_M_wantTruth_31 : decode b_M_wantTruth 31 = .ok (.goto 4, 3) := by decide +kernel
theorem d_M_wantTruth_34 : decode b_M_wantTruth 34 = .ok (.iconst 0, 1) := by decide +kernel
theorem d_M_wantTruth_35 : decode b_M_wantTruth 35 = .ok (.ireturn, 1) := by decide +kernel
theorem p_M_wantTruth_b35 (d : Nat)  (s0 : Int32) (h : gk_H) : gk_P gw_I (d + 2) y_M_wantTruth b_M_wantTruth 3 (some .boolean) [] (f_M_wantTruth_b35  s0 h) 35 [] [.int s0] h := by
  unfold f_M_wantTruth_b35
  exact gk_zret (pc := 35) rfl d_M_wantTruth_35 rfl
theorem p_M_wantTruth_b34 (d : Nat)   (h : gk_H) : gk_P gw_I (d + 2) y_M_wantTruth b_M_wantTruth 3 (some .boolean) [] (f_M_wantTruth_b34   h) 34 [] [] h := by
  unfold f_M_wantTruth_b34
  refine gk_iconst (pc := 34) (0 : Int32) d_M_wantTruth_34 rfl ?_
  exact p_M_wantTruth_b35 d (0 : Int32) h
theorem w_M_wantTruth (d : Nat) (a0 : Option Nat) (a1 : Int32) (h : gk_H) : gk_P gw_I (d + 2) y_M_wantTruth b_M_wantTruth 3 (some .boolean) [] (f_M_wantTruth a0 a1 h) 0 [(0, va_rf a0), (1, .int a1)] [] h := by
  unfold f_M_wantTruth
  refine gk_aload_n (pc := 0) 0 d_M_wantTruth_0 rfl ?_
  refine gk_getI (pc := 1) 7 11 d_M_wantTruth_1 rfl (Nat.le_of_ble_eq_true rfl) tw_1656 fun x1 => ?_
  refine gk_if_le (pc := 4) 9 d_M_wantTruth_4 rfl (fun _ => ?_) (fun _ => ?_)
  · refine gk_aload_n (pc := 9) 0 d_M_wantTruth_9 rfl ?_
    refine gk_iload_n (pc := 10) 1 d_M_wantTruth_10 rfl ?_
    refine gk_callV (pc := 11) (d := (d + 1)) (w' := gv_I) (as := [.int a1]) (n := 1) 7 d_M_wantTruth_11 rfl rfl rfl rfl (Nat.le_of_ble_eq_true rfl) tw_1801 tw_1803 tw_20 tw_99 cw_M_single hy_M_single (Nat.le_of_ble_eq_true rfl) (p_M_single d a0 a1 h) fun x2 h1 => ?_
    refine gk_istore_n (pc := 14) (L' := [(2, .int x2), (0, va_rf a0), (1, .int a1)]) d_M_wantTruth_14 (Nat.le_of_ble_eq_true rfl) rfl ?_
    refine gk_aload_n (pc := 15) 1 d_M_wantTruth_15 rfl ?_
    refine gk_getI (pc := 16) 7 11 d_M_wantTruth_16 rfl (Nat.le_of_ble_eq_true rfl) tw_1656 fun x3 => ?_
    refine gk_if_ne (pc := 19) 34 d_M_wantTruth_19 rfl (fun _ => ?_) (fun _ => ?_)
    · refine gk_aload_n (pc := 22) 1 d_M_wantTruth_22 rfl ?_
      refine gk_iload_n (pc := 23) 0 d_M_wantTruth_23 rfl ?_
      refine gk_callV (pc := 24) (d := (d + 1)) (w' := gv_I) (as := [.int x2]) (n := 1) 7 d_M_wantTruth_24 rfl rfl rfl rfl (Nat.le_of_ble_eq_true rfl) tw_2054 tw_2056 tw_66 tw_99 cw_M_truthOf hy_M_truthOf (Nat.le_of_ble_eq_true rfl) (p_M_truthOf d a0 x2 h1) fun x4 h2 => ?_
      refine gk_if_eq (pc := 27) 34 d_M_wantTruth_27 rfl (fun _ => ?_) (fun _ => ?_)
      · refine gk_weak [] (L' := []) rfl ?_
        exact p_M_wantTruth_b34 d h2
      · refine gk_iconst (pc := 30) (1 : Int32) d_M_wantTruth_30 rfl ?_
        refine gk_goto (pc := 31) 35 d_M_wantTruth_31 rfl ?_
        refine gk_weak [] (L' := []) rfl ?_
        exact p_M_wantTruth_b35 d (1 : Int32) h2
    · refine gk_weak [] (L' := []) rfl ?_
      exact p_M_wantTruth_b34 d h1
  · refine gk_iconst (pc := 7) (0 : Int32) d_M_wantTruth_7 rfl ?_
    exact gk_zret (pc := 8) rfl d_M_wantTruth_8 rfl
theorem p_M_wantTruth (d : Nat) (a0 : Option Nat) (a1 : Int32) (h : gk_H) : ∀ r h1, f_M_wantTruth a0 a1 h = some (r, h1) → gk_M (d + 2) y_M_wantTruth b_M_wantTruth 3 (some .boolean) [va_rf a0, .int a1] h (.inl (gv_I r)) h1 :=
  fun r h1 e => gk_M_of2 (by decide +kernel) (by simp [lv_args, gk_cat_rf, gk_catI, gk_catJ, gk_catD, gv_V, gv_I, gv_J, gv_D, gv_R]) (by simp [lg_sl, gk_cat_rf, gk_catI, gk_catJ, gk_catD, gv_V, gv_I, gv_J, gv_D, gv_R]) (w_M_wantTruth d a0 a1 h r h1 e)
theorem d_M_logic_0 : decode b_M_logic 0 = .ok (.iconst 0, 1) := by decide +kernel
theorem d_M_logic_1 : decode b_M_logic 1 = .ok (.istore 4, 2) := by decide +kernel
theorem d_M_logic_3 : decode b_M_logic 3 = .ok (.iconst 0, 1) := by decide +kernel
theorem d_M_logic_4 : decode b_M_logic 4 = .ok (.istore 5, 2) := by decide +kernel
theorem d_M_logic_6 : decode b_M_logic 6 = .ok (.iload_n 2, 1) := by decide +kernel
theorem d_M_logic_7 : decode b_M_logic 7 = .ok (.istore 6, 2) := by decide +kernel
theorem d_M_logic_9 : decode b_M_logic 9 = .ok (.iload 6, 2) := by decide +kernel
theorem d_M_logic_11 : decode b_M_logic 11 = .ok (.iload_n 2, 1) := by decide +kernel
theorem d_M_logic_12 : decode b_M_logic 12 = .ok (.iload_n 3, 1) := by decide +kernel
theorem d_M_logic_13 : decode b_M_logic 13 = .ok (.iadd, 1) := by decide +kernel
theorem d_M_logic_14 : decode b_M_logic 14 = .ok (.if_icmp .ge 195, 3) := by decide +kernel
theorem d_M_logic_17 : decode b_M_logic 17 = .ok (.aload_n 0, 1) := by decide +kernel
theorem d_M_logic_18 : decode b_M_logic 18 = .ok (.getfield 62, 3) := by decide +kernel
theorem d_M_logic_21 : decode b_M_logic 21 = .ok (.ifCond .ne 188, 3) := by decide +kernel
theorem d_M_logic_24 : decode b_M_logic 24 = .ok (.aload_n 0, 1) := by decide +kernel
theorem d_M_logic_25 : decode b_M_logic 25 = .ok (.getfield 13, 3) := by decide +kernel
theorem d_M_logic_28 : decode b_M_logic 28 = .ok (.iload 6, 2) := by decide +kernel
theorem d_M_logic_30 : decode b_M_logic 30 = .ok (.iaload, 1) := by decide +kernel
theorem d_M_logic_31 : decode b_M_logic 31 = .ok (.iconst 5, 1) := by decide +kernel
theorem d_M_logic_32 : decode b_M_logic 32 = .ok (.if_icmp .ge 29, 3) := by decide +kernel
theorem d_M_logic_35 : decode b_M_logic 35 = .ok (.aload_n 0, 1) := by decide +kernel
theorem d_M_logic_36 : decode b_M_logic 36 = .ok (.iload 6, 2) := by decide +kernel
theorem d_M_logic_38 : decode b_M_logic 38 = .ok (.invokevirtual 366, 3) := by decide +kernel
theorem d_M_logic_41 : decode b_M_logic 41 = .ok (.ifCond .eq 10, 3) := by decide +kernel
theorem d_M_logic_44 : decode b_M_logic 44 = .ok (.iload 5, 2) := by decide +kernel
theorem d_M_logic_46 : decode b_M_logic 46 = .ok (.iconst 1, 1) := by decide +kernel
theorem d_M_logic_47 : decode b_M_logic 47 = .ok (.iadd, 1) := by decide +kernel
theorem d_M_logic_48 : decode b_M_logic 48 = .ok (.goto 5, 3) := by decide +kernel
theorem d_M_logic_51 : decode b_M_logic 51 = .ok (.iload 5, 2) := by decide +kernel
theorem d_M_logic_53 : decode b_M_logic 53 = .ok (.istore 5, 2) := by decide +kernel
theorem d_M_logic_55 : decode b_M_logic 55 = .ok (.iinc 4 1, 3) := by decide +kernel
theorem d_M_logic_58 : decode b_M_logic 58 = .ok (.goto 145, 3) := by decide +kernel
theorem d_M_logic_61 : decode b_M_logic 61 = .ok (.iconst 0, 1) := by decide +kernel
theorem d_M_logic_62 : decode b_M_logic 62 = .ok (.istore 7, 2) := by decide +kernel
theorem d_M_logic_64 : decode b_M_logic 64 = .ok (.iload 7, 2) := by decide +kernel
theorem d_M_logic_66 : decode b_M_logic 66 = .ok (.aload_n 0, 1) := by decide +kernel
theorem d_M_logic_67 : decode b_M_logic 67 = .ok (.getfield 17, 3) := by decide +kernel
theorem d_M_logic_70 : decode b_M_logic 70 = .ok (.iload 6, 2) := by decide +kernel
theorem d_M_logic_72 : decode b_M_logic 72 = .ok (.iaload, 1) := by decide +kernel
theorem d_M_logic_73 : decode b_M_logic 73 = .ok (.aload_n 0, 1) := by decide +kernel
theorem d_M_logic_74 : decode b_M_logic 74 = .ok (.getfield 20, 3) := by decide +kernel
theorem d_M_logic_77 : decode b_M_logic 77 = .ok (.iload 6, 2) := by decide +kernel
theorem d_M_logic_79 : decode b_M_logic 79 = .ok (.iaload, 1) := by decide +kernel
theorem d_M_logic_80 : decode b_M_logic 80 = .ok (.imul, 1) := by decide +kernel
theorem d_M_logic_81 : decode b_M_logic 81 = .ok (.if_icmp .ge 122, 3) := by decide +kernel
theorem d_M_logic_84 : decode b_M_logic 84 = .ok (.aload_n 0, 1) := by decide +kernel
theorem d_M_logic_85 : decode b_M_logic 85 = .ok (.getfield 62, 3) := by decide +kernel
theorem d_M_logic_88 : decode b_M_logic 88 = .ok (.ifCond .ne 115, 3) := by decide +kernel
theorem d_M_logic_91 : decode b_M_logic 91 = .ok (.bipush 16, 2) := by decide +kernel
theorem d_M_logic_93 : decode b_M_logic 93 = .ok (.iload 6, 2) := by decide +kernel
theorem d_M_logic_95 : decode b_M_logic 95 = .ok (.imul, 1) := by decide +kernel
theorem d_M_logic_96 : decode b_M_logic 96 = .ok (.iload 7, 2) := by decide +kernel
theorem d_M_logic_98 : decode b_M_logic 98 = .ok (.iadd, 1) := by decide +kernel
theorem d_M_logic_99 : decode b_M_logic 99 = .ok (.istore 8, 2) := by decide +kernel
theorem d_M_logic_101 : decode b_M_logic 101 = .ok (.aload_n 0, 1) := by decide +kernel
theorem d_M_logic_102 : decode b_M_logic 102 = .ok (.getfield 23, 3) := by decide +kernel
theorem d_M_logic_105 : decode b_M_logic 105 = .ok (.iload 8, 2) := by decide +kernel
theorem d_M_logic_107 : decode b_M_logic 107 = .ok (.iaload, 1) := by decide +kernel
theorem d_M_logic_108 : decode b_M_logic 108 = .ok (.iconst 4, 1) := by decide +kernel
theorem d_M_logic_109 : decode b_M_logic 109 = .ok (.if_icmp .ne 15, 3) := by decide +kernel
theorem d_M_logic_112 : decode b_M_logic 112 = .ok (.aload_n 0, 1) := by decide +kernel
theorem d_M_logic_113 : decode b_M_logic 113 = .ok (.aload_n 0, 1) := by decide +kernel
theorem d_M_logic_114 : decode b_M_logic 114 = .ok (.getfield 26, 3) := by decide +kernel
theorem d_M_logic_117 : decode b_M_logic 117 = .ok (.iload 8, 2) := by decide +kernel
theorem d_M_logic_119 : decode b_M_logic 119 = .ok (.daload, 1) := by decide +kernel
theorem d_M_logic_120 : decode b_M_logic 120 = .ok (.d2i, 1) := by decide +kernel
theorem d_M_logic_121 : decode b_M_logic 121 = .ok (.invokevirtual 58, 3) := by decide +kernel
theorem d_M_logic_124 : decode b_M_logic 124 = .ok (.aload_n 0, 1) := by decide +kernel
theorem d_M_logic_125 : decode b_M_logic 125 = .ok (.getfield 23, 3) := by decide +kernel
theorem d_M_logic_128 : decode b_M_logic 128 = .ok (.iload 8, 2) := by decide +kernel
theorem d_M_logic_130 : decode b_M_logic 130 = .ok (.iaload, 1) := by decide +kernel
theorem d_M_logic_131 : decode b_M_logic 131 = .ok (.iconst 1, 1) := by decide +kernel
theorem d_M_logic_132 : decode b_M_logic 132 = .ok (.if_icmp .eq 14, 3) := by decide +kernel
theorem d_M_logic_135 : decode b_M_logic 135 = .ok (.aload_n 0, 1) := by decide +kernel
theorem d_M_logic_136 : decode b_M_logic 136 = .ok (.getfield 23, 3) := by decide +kernel
theorem d_M_logic_139 : decode b_M_logic 139 = .ok (.iload 8, 2) := by decide +kernel
theorem d_M_logic_141 : decode b_M_logic 141 = .ok (.iaload, 1) := by decide +kernel
theorem d_M_logic_142 : decode b_M_logic 142 = .ok (.iconst 3, 1) := by decide +kernel
theorem d_M_logic_143 : decode b_M_logic 143 = .ok (.if_icmp .ne 7, 3) := by decide +kernel
theorem d_M_logic_146 : decode b_M_logic 146 = .ok (.iconst 1, 1) := by decide +kernel
theorem d_M_logic_147 : decode b_M_logic 147 = .ok (.goto 4, 3) := by decide +kernel
theorem d_M_logic_150 : decode b_M_logic 150 = .ok (.iconst 0, 1) := by decide +kernel
theorem d_M_logic_151 : decode b_M_logic 151 = .ok (.istore 9, 2) := by decide +kernel
theorem d_M_logic_153 : decode b_M_logic 153 = .ok (.iload 9, 2) := by decide +kernel
theorem d_M_logic_155 : decode b_M_logic 155 = .ok (.ifCond .eq 10, 3) := by decide +kernel
theorem d_M_logic_158 : decode b_M_logic 158 = .ok (.iload 4, 2) := by decide +kernel
theorem d_M_logic_160 : decode b_M_logic 160 = .ok (.iconst 1, 1) := by decide +kernel
theorem d_M_logic_161 : decode b_M_logic 161 = .ok (.iadd, 1) := by decide +kernel
theorem d_M_logic_162 : decode b_M_logic 162 = .ok (.goto 5, 3) := by decide +kernel
theorem d_M_logic_165 : decode b_M_logic 165 = .ok (.iload 4, 2) := by decide +kernel
theorem d_M_logic_167 : decode b_M_logic 167 = .ok (.istore 4, 2) := by decide +kernel
theorem d_M_logic_169 : decode b_M_logic 169 = .ok (.iload 9, 2) := by decide +kernel
theorem d_M_logic_171 : decode b_M_logic 171 = .ok (.ifCond .eq 22, 3) := by decide +kernel
theorem d_M_logic_174 : decode b_M_logic 174 = .ok (.aload_n 0, 1) := by decide +kernel
theorem d_M_logic_175 : decode b_M_logic 175 = .ok (.getfield 26, 3) := by decide +kernel
theorem d_M_logic_178 : decode b_M_logic 178 = .ok (.iload 8, 2) := by decide +kernel
theorem d_M_logic_180 : decode b_M_logic 180 = .ok (.daload, 1) := by decide +kernel
theorem d_M_logic_181 : decode b_M_logic 181 = .ok (.dconst 0, 1) := by decide +kernel
theorem d_M_logic_182 : decode b_M_logic 182 = .ok (.dcmp .l, 1) := by decide +kernel
theorem d_M_logic_183 : decode b_M_logic 183 = .ok (.ifCond .eq 10, 3) := by decide +kernel
theorem d_M_logic_186 : decode b_M_logic 186 = .ok (.iload 5, 2) := by decide +kernel
theorem d_M_logic_188 : decode b_M_logic 188 = .ok (.iconst 1, 1) := by decide +kernel
theorem d_M_logic_189 : decode b_M_logic 189 = .ok (.iadd, 1) := by decide +kernel
theorem d_M_logic_190 : decode b_M_logic 190 = .ok (.goto 5, 3) := by decide +kernel
theorem d_M_logic_193 : decode b_M_logic 193 = .ok (.iload 5, 2) := by decide +kernel
theorem d_M_logic_195 : decode b_M_logic 195 = .ok (.istore 5, 2) := by decide +kernel
theorem d_M_logic_197 : decode b_M_logic 197 = .ok (.iinc 7 1, 3) := by decide +kernel
theorem d_M_logic_200 : decode b_M_logic 200 = .ok (.goto (-136), 3) := by decide +kernel
theorem d_M_logic_203 : decode b_M_logic 203 = .ok (.iinc 6 1, 3) := by decide +kernel
theorem d_M_logic_206 : decode b_M_logic 206 = .ok (.goto (-197), 3) := by decide +kernel
theorem d_M_logic_209 : decode b_M_logic 209 = .ok (.aload_n 0, 1) := by decide +kernel
theorem d_M_logic_210 : decode b_M_logic 210 = .ok (.getfield 62, 3) := by decide +kernel
theorem d_M_logic_213 : decode b_M_logic 213 = .ok (.ifCond .ne 13, 3) := by decide +kernel
theorem d_M_logic_216 : decode b_M_logic 216 = .ok (.iload 4, 2) := by decide +kernel
theorem d_M_logic_218 : decode b_M_logic 218 = .ok (.ifCond .ne 8, 3) := by decide +kernel
theorem d_M_logic_221 : decode b_M_logic 221 = .ok (.aload_n 0, 1) := by decide +kernel
theorem d_M_logic_222 : decode b_M_logic 222 = .ok (.iconst 3, 1) := by decide +kernel
theorem d_M_logic_223 : decode b_M_logic 223 = .ok (.invokevirtual 58, 3) := by decide +kernel
theorem d_M_logic_226 : decode b_M_logic 226 = .ok (.aload_n 0, 1) := by decide +kernel
theorem d_M_logic_227 : decode b_M_logic 227 = .ok (.iload_n 1, 1) := by decide +kernel
theorem d_M_logic_228 : decode b_M_logic 228 = .ok (.bipush 39, 2) := by decide +kernel
theorem d_M_logic_230 : decode b_M_logic 230 = .ok (.if_icmp .ne 18, 3) := by decide +kernel
theorem d_M_logic_233 : decode b_M_logic 233 = .ok (.iload 5, 2) := by decide +kernel
theorem d_M_logic_235 : decode b_M_logic 235 = .ok (.iload 4, 2) := by decide +kernel
theorem d_M_logic_237 : decode b_M_logic 237 = .ok (.if_icmp .ne 7, 3) := by decide +kernel
theorem d_M_logic_240 : decode b_M_logic 240 = .ok (.iconst 1, 1) := by decide +kernel
theorem d_M_logic_241 : decode b_M_logic 241 = .ok (.goto 39, 3) := by decide +kernel
theorem d_M_logic_244 : decode b_M_logic 244 = .ok (.iconst 0, 1) := by decide +kernel
theorem d_M_logic_245 : decode b_M_logic 245 = .ok (.goto 35, 3) := by decide +kernel
theorem d_M_logic_248 : decode b_M_logic 248 = .ok (.iload_n 1, 1) := by decide +kernel
theorem d_M_logic_249 : decode b_M_logic 249 = .ok (.bipush 40, 2) := by decide +kernel
theorem d_M_logic_251 : decode b_M_logic 251 = .ok (.if_icmp .ne 16, 3) := by decide +kernel
theorem d_M_logic_254 : decode b_M_logic 254 = .ok (.iload 5, 2) := by decide +kernel
theorem d_M_logic_256 : decode b_M_logic 256 = .ok (.ifCond .le 7, 3) := by decide +kernel
theorem d_M_logic_259 : decode b_M_logic 259 = .ok (.iconst 1, 1) := by decide +kernel
theorem d_M_logic_260 : decode b_M_logic 260 = .ok (.goto 20, 3) := by decide +kernel
theorem d_M_logic_263 : decode b_M_logic 263 = .ok (.iconst 0, 1) := by decide +kernel
theorem d_M_logic_264 : decode b_M_logic 264 = .ok (.goto 16, 3) := by decide +kernel
theorem d_M_logic_267 : decode b_M_logic 267 = .ok (.iload 5, 2) := by decide +kernel
theorem d_M_logic_269 : decode b_M_logic 269 = .ok (.iconst 2, 1) := by decide +kernel
theorem d_M_logic_270 : decode b_M_logic 270 = .ok (.irem, 1) := by decide +kernel
theorem d_M_logic_271 : decode b_M_logic 271 = .ok (.iconst 1, 1) := by decide +kernel
theorem d_M_logic_272 : decode b_M_logic 272 = .ok (.if_icmp .ne 7, 3) := by decide +kernel
theorem d_M_logic_275 : decode b_M_logic 275 = .ok (.iconst 1, 1) := by decide +kernel
theorem d_M_logic_276 : decode b_M_logic 276 = .ok (.goto 4, 3) := by decide +kernel
theorem d_M_logic_279 : decode b_M_logic 279 = .ok (.iconst 0, 1) := by decide +kernel
theorem d_M_logic_280 : decode b_M_logic 280 = .ok (.invokevirtual 193, 3) := by decide +kernel
theorem d_M_logic_283 : decode b_M_logic 283 = .ok (.return_, 1) := by decide +kernel
theorem p_M_logic_b280 (d : Nat)  (s0 : Option Nat) (s1 : Int32) (h : gk_H) : gk_P gw_V (d + 3) y_M_logic b_M_logic 10 none [] (f_M_logic_b280  s0 s1 h) 280 [] [.int s1, va_rf s0] h := by
  unfold f_M_logic_b280
  refine gk_callV (pc := 280) (d := (d + 2)) (w' := gv_V) (as := [.int s1]) (n := 1) 7 d_M_logic_280 rfl rfl rfl rfl (Nat.le_of_ble_eq_true rfl) tw_1826 tw_1828 tw_24 tw_99 cw_M_answerTruth hy_M_answerTruth (Nat.le_of_ble_eq_true rfl) (p_M_answerTruth (d + 1) s0 s1 h) fun _ h1 => ?_
  exact gk_vret (pc := 283) rfl d_M_logic_283 rfl
theorem p_M_logic_b226 (d : Nat)  (v0 : Option Nat) (v1 : Int32) (v4 : Int32) (v5 : Int32) (h : gk_H) : gk_P gw_V (d + 3) y_M_logic b_M_logic 10 none [] (f_M_logic_b226  v0 v1 v4 v5 h) 226 [(0, va_rf v0), (1, .int v1), (4, .int v4), (5, .int v5)] [] h := by
  unfold f_M_logic_b226
  refine gk_aload_n (pc := 226) 0 d_M_logic_226 rfl ?_
  refine gk_iload_n (pc := 227) 1 d_M_logic_227 rfl ?_
  refine gk_bipush (pc := 228) (39 : Int32) d_M_logic_228 rfl ?_
  refine gk_icmp_ne (pc := 230) 248 d_M_logic_230 rfl (fun _ => ?_) (fun _ => ?_)
  · refine gk_iload (pc := 233) 3 d_M_logic_233 rfl ?_
    refine gk_iload (pc := 235) 2 d_M_logic_235 rfl ?_
    refine gk_icmp_ne (pc := 237) 244 d_M_logic_237 rfl (fun _ => ?_) (fun _ => ?_)
    · refine gk_iconst (pc := 240) (1 : Int32) d_M_logic_240 rfl ?_
      refine gk_goto (pc := 241) 280 d_M_logic_241 rfl ?_
      refine gk_weak [] (L' := []) rfl ?_
      exact p_M_logic_b280 d v0 (1 : Int32) h
    · refine gk_iconst (pc := 244) (0 : Int32) d_M_logic_244 rfl ?_
      refine gk_goto (pc := 245) 280 d_M_logic_245 rfl ?_
      refine gk_weak [] (L' := []) rfl ?_
      exact p_M_logic_b280 d v0 (0 : Int32) h
  · refine gk_iload_n (pc := 248) 1 d_M_logic_248 rfl ?_
    refine gk_bipush (pc := 249) (40 : Int32) d_M_logic_249 rfl ?_
    refine gk_icmp_ne (pc := 251) 267 d_M_logic_251 rfl (fun _ => ?_) (fun _ => ?_)
    · refine gk_iload (pc := 254) 3 d_M_logic_254 rfl ?_
      refine gk_if_le (pc := 256) 263 d_M_logic_256 rfl (fun _ => ?_) (fun _ => ?_)
      · refine gk_iconst (pc := 263) (0 : Int32) d_M_logic_263 rfl ?_
        refine gk_goto (pc := 264) 280 d_M_logic_264 rfl ?_
        refine gk_weak [] (L' := []) rfl ?_
        exact p_M_logic_b280 d v0 (0 : Int32) h
      · refine gk_iconst (pc := 259) (1 : Int32) d_M_logic_259 rfl ?_
        refine gk_goto (pc := 260) 280 d_M_logic_260 rfl ?_
        refine gk_weak [] (L' := []) rfl ?_
        exact p_M_logic_b280 d v0 (1 : Int32) h
    · refine gk_iload (pc := 267) 3 d_M_logic_267 rfl ?_
      refine gk_iconst (pc := 269) (2 : Int32) d_M_logic_269 rfl ?_
      refine gk_irem (pc := 270) (by decide) d_M_logic_270 ?_
      refine gk_iconst (pc := 271) (1 : Int32) d_M_logic_271 rfl ?_
      refine gk_icmp_ne (pc := 272) 279 d_M_logic_272 rfl (fun _ => ?_) (fun _ => ?_)
      · refine gk_iconst (pc := 275) (1 : Int32) d_M_logic_275 rfl ?_
        refine gk_goto (pc := 276) 280 d_M_logic_276 rfl ?_
        refine gk_weak [] (L' := []) rfl ?_
        exact p_M_logic_b280 d v0 (1 : Int32) h
      · refine gk_iconst (pc := 279) (0 : Int32) d_M_logic_279 rfl ?_
        refine gk_weak [] (L' := []) rfl ?_
        exact p_M_logic_b280 d v0 (0 : Int32) h
theorem p_M_logic_b209 (d : Nat)  (v0 : Option Nat) (v1 : Int32) (v4 : Int32) (v5 : Int32) (h : gk_H) : gk_P gw_V (d + 3) y_M_logic b_M_logic 10 none [] (f_M_logic_b209  v0 v1 v4 v5 h) 209 [(0, va_rf v0), (1, .int v1), (4, .int v4), (5, .int v5)] [] h := by
  unfold f_M_logic_b209
  refine gk_aload_n (pc := 209) 0 d_M_logic_209 rfl ?_
  refine gk_getI (pc := 210) 7 11 d_M_logic_210 rfl (Nat.le_of_ble_eq_true rfl) tw_1656 fun x1 => ?_
  refine gk_if_ne (pc := 213) 226 d_M_logic_213 rfl (fun _ => ?_) (fun _ => ?_)
  · refine gk_iload (pc := 216) 2 d_M_logic_216 rfl ?_
    refine gk_if_ne (pc := 218) 226 d_M_logic_218 rfl (fun _ => ?_) (fun _ => ?_)
    · refine gk_aload_n (pc := 221) 0 d_M_logic_221 rfl ?_
      refine gk_iconst (pc := 222) (3 : Int32) d_M_logic_222 rfl ?_
      refine gk_callV (pc := 223) (d := (d + 2)) (w' := gv_V) (as := [.int (3 : Int32)]) (n := 1) 7 d_M_logic_223 rfl rfl rfl rfl (Nat.le_of_ble_eq_true rfl) tw_1805 tw_1807 tw_21 tw_99 cw_M_fail hy_M_fail (Nat.le_of_ble_eq_true rfl) (p_M_fail (d + 2) v0 (3 : Int32) h) fun _ h1 => ?_
      exact p_M_logic_b226 d v0 v1 v4 v5 h1
    · exact p_M_logic_b226 d v0 v1 v4 v5 h
  · exact p_M_logic_b226 d v0 v1 v4 v5 h
theorem p_M_logic_b203 (d : Nat) (b9 : Option Nat → Int32 → Int32 → Int32 → Int32 → Int32 → Int32 → gk_H → Option (Unit × gk_H)) (q9 : ∀ (v0 : Option Nat) (v1 : Int32) (v2 : Int32) (v3 : Int32) (v4 : Int32) (v5 : Int32) (v6 : Int32) (h : gk_H), gk_P gw_V (d + 3) y_M_logic b_M_logic 10 none [] (b9 v0 v1 v2 v3 v4 v5 v6 h) 9 [(0, va_rf v0), (1, .int v1), (2, .int v2), (3, .int v3), (4, .int v4), (5, .int v5), (6, .int v6)] [] h) (v0 : Option Nat) (v1 : Int32) (v2 : Int32) (v3 : Int32) (v4 : Int32) (v5 : Int32) (v6 : Int32) (h : gk_H) : gk_P gw_V (d + 3) y_M_logic b_M_logic 10 none [] (f_M_logic_b203 b9 v0 v1 v2 v3 v4 v5 v6 h) 203 [(0, va_rf v0), (1, .int v1), (2, .int v2), (3, .int v3), (4, .int v4), (5, .int v5), (6, .int v6)] [] h := by
  unfold f_M_logic_b203
  refine gk_iincN (pc := 203) 6 (1 : Int32) (L' := fun x1 => [(6, .int x1), (0, va_rf v0), (1, .int v1), (2, .int v2), (3, .int v3), (4, .int v4), (5, .int v5)]) d_M_logic_203 rfl rfl (Nat.le_of_ble_eq_true rfl) (fun _ => rfl) fun x1 => ?_
  refine gk_goto (pc := 206) 9 d_M_logic_206 rfl ?_
  refine gk_weak [1, 2, 3, 4, 5, 6, 0] (L' := [(0, va_rf v0), (1, .int v1), (2, .int v2), (3, .int v3), (4, .int v4), (5, .int v5), (6, .int x1)]) rfl ?_
  exact q9 v0 v1 v2 v3 v4 v5 x1 h
theorem p_M_logic_b195 (d : Nat) (b9 : Option Nat → Int32 → Int32 → Int32 → Int32 → Int32 → Int32 → gk_H → Option (Unit × gk_H)) (q9 : ∀ (v0 : Option Nat) (v1 : Int32) (v2 : Int32) (v3 : Int32) (v4 : Int32) (v5 : Int32) (v6 : Int32) (h : gk_H), gk_P gw_V (d + 3) y_M_logic b_M_logic 10 none [] (b9 v0 v1 v2 v3 v4 v5 v6 h) 9 [(0, va_rf v0), (1, .int v1), (2, .int v2), (3, .int v3), (4, .int v4), (5, .int v5), (6, .int v6)] [] h) (b64 : Option Nat → Int32 → Int32 → Int32 → Int32 → Int32 → Int32 → Int32 → gk_H → Option (Unit × gk_H)) (q64 : ∀ (v0 : Option Nat) (v1 : Int32) (v2 : Int32) (v3 : Int32) (v4 : Int32) (v5 : Int32) (v6 : Int32) (v7 : Int32) (h : gk_H), gk_P gw_V (d + 3) y_M_logic b_M_logic 10 none [] (b64 v0 v1 v2 v3 v4 v5 v6 v7 h) 64 [(0, va_rf v0), (1, .int v1), (2, .int v2), (3, .int v3), (4, .int v4), (5, .int v5), (6, .int v6), (7, .int v7)] [] h) (v0 : Option Nat) (v1 : Int32) (v2 : Int32) (v3 : Int32) (v4 : Int32) (v6 : Int32) (v7 : Int32) (s0 : Int32) (h : gk_H) : gk_P gw_V (d + 3) y_M_logic b_M_logic 10 none [] (f_M_logic_b195 b9 b64 v0 v1 v2 v3 v4 v6 v7 s0 h) 195 [(0, va_rf v0), (1, .int v1), (2, .int v2), (3, .int v3), (4, .int v4), (6, .int v6), (7, .int v7)] [.int s0] h := by
  unfold f_M_logic_b195
  refine gk_istore (pc := 195) (L' := [(5, .int s0), (0, va_rf v0), (1, .int v1), (2, .int v2), (3, .int v3), (4, .int v4), (6, .int v6), (7, .int v7)]) d_M_logic_195 (Nat.le_of_ble_eq_true rfl) rfl ?_
  refine gk_iincN (pc := 197) 7 (1 : Int32) (L' := fun x1 => [(7, .int x1), (5, .int s0), (0, va_rf v0), (1, .int v1), (2, .int v2), (3, .int v3), (4, .int v4), (6, .int v6)]) d_M_logic_197 rfl rfl (Nat.le_of_ble_eq_true rfl) (fun _ => rfl) fun x1 => ?_
  refine gk_goto (pc := 200) 64 d_M_logic_200 rfl ?_
  refine gk_weak [2, 3, 4, 5, 6, 1, 7, 0] (L' := [(0, va_rf v0), (1, .int v1), (2, .int v2), (3, .int v3), (4, .int v4), (5, .int s0), (6, .int v6), (7, .int x1)]) rfl ?_
  exact q64 v0 v1 v2 v3 v4 s0 v6 x1 h
theorem p_M_logic_b193 (d : Nat) (b9 : Option Nat → Int32 → Int32 → Int32 → Int32 → Int32 → Int32 → gk_H → Option (Unit × gk_H)) (q9 : ∀ (v0 : Option Nat) (v1 : Int32) (v2 : Int32) (v3 : Int32) (v4 : Int32) (v5 : Int32) (v6 : Int32) (h : gk_H), gk_P gw_V (d + 3) y_M_logic b_M_logic 10 none [] (b9 v0 v1 v2 v3 v4 v5 v6 h) 9 [(0, va_rf v0), (1, .int v1), (2, .int v2), (3, .int v3), (4, .int v4), (5, .int v5), (6, .int v6)] [] h) (b64 : Option Nat → Int32 → Int32 → Int32 → Int32 → Int32 → Int32 → Int32 → gk_H → Option (Unit × gk_H)) (q64 : ∀ (v0 : Option Nat) (v1 : Int32) (v2 : Int32) (v3 : Int32) (v4 : Int32) (v5 : Int32) (v6 : Int32) (v7 : Int32) (h : gk_H), gk_P gw_V (d + 3) y_M_logic b_M_logic 10 none [] (b64 v0 v1 v2 v3 v4 v5 v6 v7 h) 64 [(0, va_rf v0), (1, .int v1), (2, .int v2), (3, .int v3), (4, .int v4), (5, .int v5), (6, .int v6), (7, .int v7)] [] h) (v0 : Option Nat) (v1 : Int32) (v2 : Int32) (v3 : Int32) (v4 : Int32) (v5 : Int32) (v6 : Int32) (v7 : Int32) (h : gk_H) : gk_P gw_V (d + 3) y_M_logic b_M_logic 10 none [] (f_M_logic_b193 b9 b64 v0 v1 v2 v3 v4 v5 v6 v7 h) 193 [(0, va_rf v0), (1, .int v1), (2, .int v2), (3, .int v3), (4, .int v4), (5, .int v5), (6, .int v6), (7, .int v7)] [] h := by
  unfold f_M_logic_b193
  refine gk_iload (pc := 193) 5 d_M_logic_193 rfl ?_
  refine gk_weak [0, 1, 2, 3, 4, 6, 7] (L' := [(0, va_rf v0), (1, .int v1), (2, .int v2), (3, .int v3), (4, .int v4), (6, .int v6), (7, .int v7)]) rfl ?_
  exact p_M_logic_b195 d b9 q9 b64 q64 v0 v1 v2 v3 v4 v6 v7 v5 h
theorem p_M_logic_b167 (d : Nat) (b9 : Option Nat → Int32 → Int32 → Int32 → Int32 → Int32 → Int32 → gk_H → Option (Unit × gk_H)) (q9 : ∀ (v0 : Option Nat) (v1 : Int32) (v2 : Int32) (v3 : Int32) (v4 : Int32) (v5 : Int32) (v6 : Int32) (h : gk_H), gk_P gw_V (d + 3) y_M_logic b_M_logic 10 none [] (b9 v0 v1 v2 v3 v4 v5 v6 h) 9 [(0, va_rf v0), (1, .int v1), (2, .int v2), (3, .int v3), (4, .int v4), (5, .int v5), (6, .int v6)] [] h) (b64 : Option Nat → Int32 → Int32 → Int32 → Int32 → Int32 → Int32 → Int32 → gk_H → Option (Unit × gk_H)) (q64 : ∀ (v0 : Option Nat) (v1 : Int32) (v2 : Int32) (v3 : Int32) (v4 : Int32) (v5 : Int32) (v6 : Int32) (v7 : Int32) (h : gk_H), gk_P gw_V (d + 3) y_M_logic b_M_logic 10 none [] (b64 v0 v1 v2 v3 v4 v5 v6 v7 h) 64 [(0, va_rf v0), (1, .int v1), (2, .int v2), (3, .int v3), (4, .int v4), (5, .int v5), (6, .int v6), (7, .int v7)] [] h) (v0 : Option Nat) (v1 : Int32) (v2 : Int32) (v3 : Int32) (v5 : Int32) (v6 : Int32) (v7 : Int32) (v8 : Int32) (v9 : Int32) (s0 : Int32) (h : gk_H) : gk_P gw_V (d + 3) y_M_logic b_M_logic 10 none [] (f_M_logic_b167 b9 b64 v0 v1 v2 v3 v5 v6 v7 v8 v9 s0 h) 167 [(0, va_rf v0), (1, .int v1), (2, .int v2), (3, .int v3), (5, .int v5), (6, .int v6), (7, .int v7), (8, .int v8), (9, .int v9)] [.int s0] h := by
  unfold f_M_logic_b167
  refine gk_istore (pc := 167) (L' := [(4, .int s0), (0, va_rf v0), (1, .int v1), (2, .int v2), (3, .int v3), (5, .int v5), (6, .int v6), (7, .int v7), (8, .int v8), (9, .int v9)]) d_M_logic_167 (Nat.le_of_ble_eq_true rfl) rfl ?_
  refine gk_iload (pc := 169) 9 d_M_logic_169 rfl ?_
  refine gk_if_eq (pc := 171) 193 d_M_logic_171 rfl (fun _ => ?_) (fun _ => ?_)
  · refine gk_weak [1, 2, 3, 4, 0, 5, 6, 7] (L' := [(0, va_rf v0), (1, .int v1), (2, .int v2), (3, .int v3), (4, .int s0), (5, .int v5), (6, .int v6), (7, .int v7)]) rfl ?_
    exact p_M_logic_b193 d b9 q9 b64 q64 v0 v1 v2 v3 s0 v5 v6 v7 h
  · refine gk_aload_n (pc := 174) 1 d_M_logic_174 rfl ?_
    refine gk_getR (pc := 175) 7 8 d_M_logic_175 rfl (Nat.le_of_ble_eq_true rfl) tw_1653 fun x1 => ?_
    refine gk_iload (pc := 178) 8 d_M_logic_178 rfl ?_
    refine gk_dald (pc := 180) d_M_logic_180 fun x2 => ?_
    refine gk_dconst0 (pc := 181) d_M_logic_181 ?_
    refine gk_dcmp (pc := 182) d_M_logic_182 ?_
    refine gk_if_eq (pc := 183) 193 d_M_logic_183 rfl (fun _ => ?_) (fun _ => ?_)
    · refine gk_weak [1, 2, 3, 4, 0, 5, 6, 7] (L' := [(0, va_rf v0), (1, .int v1), (2, .int v2), (3, .int v3), (4, .int s0), (5, .int v5), (6, .int v6), (7, .int v7)]) rfl ?_
      exact p_M_logic_b193 d b9 q9 b64 q64 v0 v1 v2 v3 s0 v5 v6 v7 h
    · refine gk_iload (pc := 186) 5 d_M_logic_186 rfl ?_
      refine gk_iconst (pc := 188) (1 : Int32) d_M_logic_188 rfl ?_
      refine gk_iadd (pc := 189) d_M_logic_189 ?_
      refine gk_goto (pc := 190) 195 d_M_logic_190 rfl ?_
      refine gk_weak [1, 2, 3, 4, 0, 6, 7] (L' := [(0, va_rf v0), (1, .int v1), (2, .int v2), (3, .int v3), (4, .int s0), (6, .int v6), (7, .int v7)]) rfl ?_
      exact p_M_logic_b195 d b9 q9 b64 q64 v0 v1 v2 v3 s0 v6 v7 (v5 + (1 : Int32)) h
theorem p_M_logic_b151 (d : Nat) (b9 : Option Nat → Int32 → Int32 → Int32 → Int32 → Int32 → Int32 → gk_H → Option (Unit × gk_H)) (q9 : ∀ (v0 : Option Nat) (v1 : Int32) (v2 : Int32) (v3 : Int32) (v4 : Int32) (v5 : Int32) (v6 : Int32) (h : gk_H), gk_P gw_V (d + 3) y_M_logic b_M_logic 10 none [] (b9 v0 v1 v2 v3 v4 v5 v6 h) 9 [(0, va_rf v0), (1, .int v1), (2, .int v2), (3, .int v3), (4, .int v4), (5, .int v5), (6, .int v6)] [] h) (b64 : Option Nat → Int32 → Int32 → Int32 → Int32 → Int32 → Int32 → Int32 → gk_H → Option (Unit × gk_H)) (q64 : ∀ (v0 : Option Nat) (v1 : Int32) (v2 : Int32) (v3 : Int32) (v4 : Int32) (v5 : Int32) (v6 : Int32) (v7 : Int32) (h : gk_H), gk_P gw_V (d + 3) y_M_logic b_M_logic 10 none [] (b64 v0 v1 v2 v3 v4 v5 v6 v7 h) 64 [(0, va_rf v0), (1, .int v1), (2, .int v2), (3, .int v3), (4, .int v4), (5, .int v5), (6, .int v6), (7, .int v7)] [] h) (v0 : Option Nat) (v1 : Int32) (v2 : Int32) (v3 : Int32) (v4 : Int32) (v5 : Int32) (v6 : Int32) (v7 : Int32) (v8 : Int32) (s0 : Int32) (h : gk_H) : gk_P gw_V (d + 3) y_M_logic b_M_logic 10 none [] (f_M_logic_b151 b9 b64 v0 v1 v2 v3 v4 v5 v6 v7 v8 s0 h) 151 [(0, va_rf v0), (1, .int v1), (2, .int v2), (3, .int v3), (4, .int v4), (5, .int v5), (6, .int v6), (7, .int v7), (8, .int v8)] [.int s0] h := by
  unfold f_M_logic_b151
  refine gk_istore (pc := 151) (L' := [(9, .int s0), (0, va_rf v0), (1, .int v1), (2, .int v2), (3, .int v3), (4, .int v4), (5, .int v5), (6, .int v6), (7, .int v7), (8, .int v8)]) d_M_logic_151 (Nat.le_of_ble_eq_true rfl) rfl ?_
  refine gk_iload (pc := 153) 0 d_M_logic_153 rfl ?_
  refine gk_if_eq (pc := 155) 165 d_M_logic_155 rfl (fun _ => ?_) (fun _ => ?_)
  · refine gk_iload (pc := 165) 5 d_M_logic_165 rfl ?_
    refine gk_weak [1, 2, 3, 4, 6, 7, 8, 9, 0] (L' := [(0, va_rf v0), (1, .int v1), (2, .int v2), (3, .int v3), (5, .int v5), (6, .int v6), (7, .int v7), (8, .int v8), (9, .int s0)]) rfl ?_
    exact p_M_logic_b167 d b9 q9 b64 q64 v0 v1 v2 v3 v5 v6 v7 v8 s0 v4 h
  · refine gk_iload (pc := 158) 5 d_M_logic_158 rfl ?_
    refine gk_iconst (pc := 160) (1 : Int32) d_M_logic_160 rfl ?_
    refine gk_iadd (pc := 161) d_M_logic_161 ?_
    refine gk_goto (pc := 162) 167 d_M_logic_162 rfl ?_
    refine gk_weak [1, 2, 3, 4, 6, 7, 8, 9, 0] (L' := [(0, va_rf v0), (1, .int v1), (2, .int v2), (3, .int v3), (5, .int v5), (6, .int v6), (7, .int v7), (8, .int v8), (9, .int s0)]) rfl ?_
    exact p_M_logic_b167 d b9 q9 b64 q64 v0 v1 v2 v3 v5 v6 v7 v8 s0 (v4 + (1 : Int32)) h
theorem p_M_logic_b146 (d : Nat) (b9 : Option Nat → Int32 → Int32 → Int32 → Int32 → Int32 → Int32 → gk_H → Option (Unit × gk_H)) (q9 : ∀ (v0 : Option Nat) (v1 : Int32) (v2 : Int32) (v3 : Int32) (v4 : Int32) (v5 : Int32) (v6 : Int32) (h : gk_H), gk_P gw_V (d + 3) y_M_logic b_M_logic 10 none [] (b9 v0 v1 v2 v3 v4 v5 v6 h) 9 [(0, va_rf v0), (1, .int v1), (2, .int v2), (3, .int v3), (4, .int v4), (5, .int v5), (6, .int v6)] [] h) (b64 : Option Nat → Int32 → Int32 → Int32 → Int32 → Int32 → Int32 → Int32 → gk_H → Option (Unit × gk_H)) (q64 : ∀ (v0 : Option Nat) (v1 : Int32) (v2 : Int32) (v3 : Int32) (v4 : Int32) (v5 : Int32) (v6 : Int32) (v7 : Int32) (h : gk_H), gk_P gw_V (d + 3) y_M_logic b_M_logic 10 none [] (b64 v0 v1 v2 v3 v4 v5 v6 v7 h) 64 [(0, va_rf v0), (1, .int v1), (2, .int v2), (3, .int v3), (4, .int v4), (5, .int v5), (6, .int v6), (7, .int v7)] [] h) (v0 : Option Nat) (v1 : Int32) (v2 : Int32) (v3 : Int32) (v4 : Int32) (v5 : Int32) (v6 : Int32) (v7 : Int32) (v8 : Int32) (h : gk_H) : gk_P gw_V (d + 3) y_M_logic b_M_logic 10 none [] (f_M_logic_b146 b9 b64 v0 v1 v2 v3 v4 v5 v6 v7 v8 h) 146 [(0, va_rf v0), (1, .int v1), (2, .int v2), (3, .int v3), (4, .int v4), (5, .int v5), (6, .int v6), (7, .int v7), (8, .int v8)] [] h := by
  unfold f_M_logic_b146
  refine gk_iconst (pc := 146) (1 : Int32) d_M_logic_146 rfl ?_
  refine gk_goto (pc := 147) 151 d_M_logic_147 rfl ?_
  exact p_M_logic_b151 d b9 q9 b64 q64 v0 v1 v2 v3 v4 v5 v6 v7 v8 (1 : Int32) h
theorem p_M_logic_b124 (d : Nat) (b9 : Option Nat → Int32 → Int32 → Int32 → Int32 → Int32 → Int32 → gk_H → Option (Unit × gk_H)) (q9 : ∀ (v0 : Option Nat) (v1 : Int32) (v2 : Int32) (v3 : Int32) (v4 : Int32) (v5 : Int32) (v6 : Int32) (h : gk_H), gk_P gw_V (d + 3) y_M_logic b_M_logic 10 none [] (b9 v0 v1 v2 v3 v4 v5 v6 h) 9 [(0, va_rf v0), (1, .int v1), (2, .int v2), (3, .int v3), (4, .int v4), (5, .int v5), (6, .int v6)] [] h) (b64 : Option Nat → Int32 → Int32 → Int32 → Int32 → Int32 → Int32 → Int32 → gk_H → Option (Unit × gk_H)) (q64 : ∀ (v0 : Option Nat) (v1 : Int32) (v2 : Int32) (v3 : Int32) (v4 : Int32) (v5 : Int32) (v6 : Int32) (v7 : Int32) (h : gk_H), gk_P gw_V (d + 3) y_M_logic b_M_logic 10 none [] (b64 v0 v1 v2 v3 v4 v5 v6 v7 h) 64 [(0, va_rf v0), (1, .int v1), (2, .int v2), (3, .int v3), (4, .int v4), (5, .int v5), (6, .int v6), (7, .int v7)] [] h) (v0 : Option Nat) (v1 : Int32) (v2 : Int32) (v3 : Int32) (v4 : Int32) (v5 : Int32) (v6 : Int32) (v7 : Int32) (v8 : Int32) (h : gk_H) : gk_P gw_V (d + 3) y_M_logic b_M_logic 10 none [] (f_M_logic_b124 b9 b64 v0 v1 v2 v3 v4 v5 v6 v7 v8 h) 124 [(0, va_rf v0), (1, .int v1), (2, .int v2), (3, .int v3), (4, .int v4), (5, .int v5), (6, .int v6), (7, .int v7), (8, .int v8)] [] h := by
  unfold f_M_logic_b124
  refine gk_aload_n (pc := 124) 0 d_M_logic_124 rfl ?_
  refine gk_getR (pc := 125) 7 7 d_M_logic_125 rfl (Nat.le_of_ble_eq_true rfl) tw_1652 fun x1 => ?_
  refine gk_iload (pc := 128) 8 d_M_logic_128 rfl ?_
  refine gk_iald (pc := 130) d_M_logic_130 fun x2 => ?_
  refine gk_iconst (pc := 131) (1 : Int32) d_M_logic_131 rfl ?_
  refine gk_icmp_eq (pc := 132) 146 d_M_logic_132 rfl (fun _ => ?_) (fun _ => ?_)
  · exact p_M_logic_b146 d b9 q9 b64 q64 v0 v1 v2 v3 v4 v5 v6 v7 v8 h
  · refine gk_aload_n (pc := 135) 0 d_M_logic_135 rfl ?_
    refine gk_getR (pc := 136) 7 7 d_M_logic_136 rfl (Nat.le_of_ble_eq_true rfl) tw_1652 fun x3 => ?_
    refine gk_iload (pc := 139) 8 d_M_logic_139 rfl ?_
    refine gk_iald (pc := 141) d_M_logic_141 fun x4 => ?_
    refine gk_iconst (pc := 142) (3 : Int32) d_M_logic_142 rfl ?_
    refine gk_icmp_ne (pc := 143) 150 d_M_logic_143 rfl (fun _ => ?_) (fun _ => ?_)
    · exact p_M_logic_b146 d b9 q9 b64 q64 v0 v1 v2 v3 v4 v5 v6 v7 v8 h
    · refine gk_iconst (pc := 150) (0 : Int32) d_M_logic_150 rfl ?_
      exact p_M_logic_b151 d b9 q9 b64 q64 v0 v1 v2 v3 v4 v5 v6 v7 v8 (0 : Int32) h
theorem p_M_logic_b64 (d : Nat) (b9 : Option Nat → Int32 → Int32 → Int32 → Int32 → Int32 → Int32 → gk_H → Option (Unit × gk_H)) (q9 : ∀ (v0 : Option Nat) (v1 : Int32) (v2 : Int32) (v3 : Int32) (v4 : Int32) (v5 : Int32) (v6 : Int32) (h : gk_H), gk_P gw_V (d + 3) y_M_logic b_M_logic 10 none [] (b9 v0 v1 v2 v3 v4 v5 v6 h) 9 [(0, va_rf v0), (1, .int v1), (2, .int v2), (3, .int v3), (4, .int v4), (5, .int v5), (6, .int v6)] [] h) : ∀ (fu : Nat) (v0 : Option Nat) (v1 : Int32) (v2 : Int32) (v3 : Int32) (v4 : Int32) (v5 : Int32) (v6 : Int32) (v7 : Int32) (h : gk_H), gk_P gw_V (d + 3) y_M_logic b_M_logic 10 none [] (f_M_logic_b64 b9 fu v0 v1 v2 v3 v4 v5 v6 v7 h) 64 [(0, va_rf v0), (1, .int v1), (2, .int v2), (3, .int v3), (4, .int v4), (5, .int v5), (6, .int v6), (7, .int v7)] [] h := by
  intro fu
  induction fu with
  | zero => intros; exact gk_none
  | succ fu q64 =>
    intro v0 v1 v2 v3 v4 v5 v6 v7 h
    rw [f_M_logic_b64]
    refine gk_iload (pc := 64) 7 d_M_logic_64 rfl ?_
    refine gk_aload_n (pc := 66) 0 d_M_logic_66 rfl ?_
    refine gk_getR (pc := 67) 7 5 d_M_logic_67 rfl (Nat.le_of_ble_eq_true rfl) tw_1650 fun x1 => ?_
    refine gk_iload (pc := 70) 6 d_M_logic_70 rfl ?_
    refine gk_iald (pc := 72) d_M_logic_72 fun x2 => ?_
    refine gk_aload_n (pc := 73) 0 d_M_logic_73 rfl ?_
    refine gk_getR (pc := 74) 7 6 d_M_logic_74 rfl (Nat.le_of_ble_eq_true rfl) tw_1651 fun x3 => ?_
    refine gk_iload (pc := 77) 6 d_M_logic_77 rfl ?_
    refine gk_iald (pc := 79) d_M_logic_79 fun x4 => ?_
    refine gk_imul (pc := 80) d_M_logic_80 ?_
    refine gk_icmp_ge (pc := 81) 203 d_M_logic_81 rfl (fun _ => ?_) (fun _ => ?_)
    · refine gk_weak [0, 1, 2, 3, 4, 5, 6] (L' := [(0, va_rf v0), (1, .int v1), (2, .int v2), (3, .int v3), (4, .int v4), (5, .int v5), (6, .int v6)]) rfl ?_
      exact p_M_logic_b203 d b9 q9 v0 v1 v2 v3 v4 v5 v6 h
    · refine gk_aload_n (pc := 84) 0 d_M_logic_84 rfl ?_
      refine gk_getI (pc := 85) 7 11 d_M_logic_85 rfl (Nat.le_of_ble_eq_true rfl) tw_1656 fun x5 => ?_
      refine gk_if_ne (pc := 88) 203 d_M_logic_88 rfl (fun _ => ?_) (fun _ => ?_)
      · refine gk_bipush (pc := 91) (16 : Int32) d_M_logic_91 rfl ?_
        refine gk_iload (pc := 93) 6 d_M_logic_93 rfl ?_
        refine gk_imul (pc := 95) d_M_logic_95 ?_
        refine gk_iload (pc := 96) 7 d_M_logic_96 rfl ?_
        refine gk_iadd (pc := 98) d_M_logic_98 ?_
        refine gk_topI (pc := 99) fun x6 => ?_
        refine gk_istore (pc := 99) (L' := [(8, .int x6), (0, va_rf v0), (1, .int v1), (2, .int v2), (3, .int v3), (4, .int v4), (5, .int v5), (6, .int v6), (7, .int v7)]) d_M_logic_99 (Nat.le_of_ble_eq_true rfl) rfl ?_
        refine gk_aload_n (pc := 101) 1 d_M_logic_101 rfl ?_
        refine gk_getR (pc := 102) 7 7 d_M_logic_102 rfl (Nat.le_of_ble_eq_true rfl) tw_1652 fun x7 => ?_
        refine gk_iload (pc := 105) 0 d_M_logic_105 rfl ?_
        refine gk_iald (pc := 107) d_M_logic_107 fun x8 => ?_
        refine gk_iconst (pc := 108) (4 : Int32) d_M_logic_108 rfl ?_
        refine gk_icmp_ne (pc := 109) 124 d_M_logic_109 rfl (fun _ => ?_) (fun _ => ?_)
        · refine gk_aload_n (pc := 112) 1 d_M_logic_112 rfl ?_
          refine gk_aload_n (pc := 113) 1 d_M_logic_113 rfl ?_
          refine gk_getR (pc := 114) 7 8 d_M_logic_114 rfl (Nat.le_of_ble_eq_true rfl) tw_1653 fun x9 => ?_
          refine gk_iload (pc := 117) 0 d_M_logic_117 rfl ?_
          refine gk_dald (pc := 119) d_M_logic_119 fun x10 => ?_
          refine gk_d2i (pc := 120) d_M_logic_120 ?_
          refine gk_callV (pc := 121) (d := (d + 2)) (w' := gv_V) (as := [.int (FP.d2i x10)]) (n := 1) 7 d_M_logic_121 rfl rfl rfl rfl (Nat.le_of_ble_eq_true rfl) tw_1805 tw_1807 tw_21 tw_99 cw_M_fail hy_M_fail (Nat.le_of_ble_eq_true rfl) (p_M_fail (d + 2) v0 (FP.d2i x10) h) fun _ h1 => ?_
          refine gk_weak [1, 2, 3, 4, 5, 6, 7, 8, 0] (L' := [(0, va_rf v0), (1, .int v1), (2, .int v2), (3, .int v3), (4, .int v4), (5, .int v5), (6, .int v6), (7, .int v7), (8, .int x6)]) rfl ?_
          exact p_M_logic_b124 d b9 q9 (f_M_logic_b64 b9 fu) q64 v0 v1 v2 v3 v4 v5 v6 v7 x6 h1
        · refine gk_weak [1, 2, 3, 4, 5, 6, 7, 8, 0] (L' := [(0, va_rf v0), (1, .int v1), (2, .int v2), (3, .int v3), (4, .int v4), (5, .int v5), (6, .int v6), (7, .int v7), (8, .int x6)]) rfl ?_
          exact p_M_logic_b124 d b9 q9 (f_M_logic_b64 b9 fu) q64 v0 v1 v2 v3 v4 v5 v6 v7 x6 h
      · refine gk_weak [0, 1, 2, 3, 4, 5, 6] (L' := [(0, va_rf v0), (1, .int v1), (2, .int v2), (3, .int v3), (4, .int v4), (5, .int v5), (6, .int v6)]) rfl ?_
        exact p_M_logic_b203 d b9 q9 v0 v1 v2 v3 v4 v5 v6 h
theorem p_M_logic_b53 (d : Nat) (b9 : Option Nat → Int32 → Int32 → Int32 → Int32 → Int32 → Int32 → gk_H → Option (Unit × gk_H)) (q9 : ∀ (v0 : Option Nat) (v1 : Int32) (v2 : Int32) (v3 : Int32) (v4 : Int32) (v5 : Int32) (v6 : Int32) (h : gk_H), gk_P gw_V (d + 3) y_M_logic b_M_logic 10 none [] (b9 v0 v1 v2 v3 v4 v5 v6 h) 9 [(0, va_rf v0), (1, .int v1), (2, .int v2), (3, .int v3), (4, .int v4), (5, .int v5), (6, .int v6)] [] h) (v0 : Option Nat) (v1 : Int32) (v2 : Int32) (v3 : Int32) (v4 : Int32) (v6 : Int32) (s0 : Int32) (h : gk_H) : gk_P gw_V (d + 3) y_M_logic b_M_logic 10 none [] (f_M_logic_b53 b9 v0 v1 v2 v3 v4 v6 s0 h) 53 [(0, va_rf v0), (1, .int v1), (2, .int v2), (3, .int v3), (4, .int v4), (6, .int v6)] [.int s0] h := by
  unfold f_M_logic_b53
  refine gk_istore (pc := 53) (L' := [(5, .int s0), (0, va_rf v0), (1, .int v1), (2, .int v2), (3, .int v3), (4, .int v4), (6, .int v6)]) d_M_logic_53 (Nat.le_of_ble_eq_true rfl) rfl ?_
  refine gk_iincN (pc := 55) 5 (1 : Int32) (L' := fun x1 => [(4, .int x1), (5, .int s0), (0, va_rf v0), (1, .int v1), (2, .int v2), (3, .int v3), (6, .int v6)]) d_M_logic_55 rfl rfl (Nat.le_of_ble_eq_true rfl) (fun _ => rfl) fun x1 => ?_
  refine gk_goto (pc := 58) 203 d_M_logic_58 rfl ?_
  refine gk_weak [2, 3, 4, 5, 0, 1, 6] (L' := [(0, va_rf v0), (1, .int v1), (2, .int v2), (3, .int v3), (4, .int x1), (5, .int s0), (6, .int v6)]) rfl ?_
  exact p_M_logic_b203 d b9 q9 v0 v1 v2 v3 x1 s0 v6 h
theorem p_M_logic_b9 (d : Nat)  : ∀ (fu : Nat) (v0 : Option Nat) (v1 : Int32) (v2 : Int32) (v3 : Int32) (v4 : Int32) (v5 : Int32) (v6 : Int32) (h : gk_H), gk_P gw_V (d + 3) y_M_logic b_M_logic 10 none [] (f_M_logic_b9  fu v0 v1 v2 v3 v4 v5 v6 h) 9 [(0, va_rf v0), (1, .int v1), (2, .int v2), (3, .int v3), (4, .int v4), (5, .int v5), (6, .int v6)] [] h := by
  intro fu
  induction fu with
  | zero => intros; exact gk_none
  | succ fu q9 =>
    intro v0 v1 v2 v3 v4 v5 v6 h
    rw [f_M_logic_b9]
    refine gk_iload (pc := 9) 6 d_M_logic_9 rfl ?_
    refine gk_iload_n (pc := 11) 2 d_M_logic_11 rfl ?_
    refine gk_iload_n (pc := 12) 3 d_M_logic_12 rfl ?_
    refine gk_iadd (pc := 13) d_M_logic_13 ?_
    refine gk_icmp_ge (pc := 14) 209 d_M_logic_14 rfl (fun _ => ?_) (fun _ => ?_)
    · refine gk_weak [0, 1, 4, 5] (L' := [(0, va_rf v0), (1, .int v1), (4, .int v4), (5, .int v5)]) rfl ?_
      exact p_M_logic_b209 d v0 v1 v4 v5 h
    · refine gk_aload_n (pc := 17) 0 d_M_logic_17 rfl ?_
      refine gk_getI (pc := 18) 7 11 d_M_logic_18 rfl (Nat.le_of_ble_eq_true rfl) tw_1656 fun x1 => ?_
      refine gk_if_ne (pc := 21) 209 d_M_logic_21 rfl (fun _ => ?_) (fun _ => ?_)
      · refine gk_aload_n (pc := 24) 0 d_M_logic_24 rfl ?_
        refine gk_getR (pc := 25) 7 4 d_M_logic_25 rfl (Nat.le_of_ble_eq_true rfl) tw_1649 fun x2 => ?_
        refine gk_iload (pc := 28) 6 d_M_logic_28 rfl ?_
        refine gk_iald (pc := 30) d_M_logic_30 fun x3 => ?_
        refine gk_iconst (pc := 31) (5 : Int32) d_M_logic_31 rfl ?_
        refine gk_icmp_ge (pc := 32) 61 d_M_logic_32 rfl (fun _ => ?_) (fun _ => ?_)
        · refine gk_iconst (pc := 61) (0 : Int32) d_M_logic_61 rfl ?_
          refine gk_istore (pc := 62) (L' := [(7, .int (0 : Int32)), (0, va_rf v0), (1, .int v1), (2, .int v2), (3, .int v3), (4, .int v4), (5, .int v5), (6, .int v6)]) d_M_logic_62 (Nat.le_of_ble_eq_true rfl) rfl ?_
          refine gk_weak [1, 2, 3, 4, 5, 6, 7, 0] (L' := [(0, va_rf v0), (1, .int v1), (2, .int v2), (3, .int v3), (4, .int v4), (5, .int v5), (6, .int v6), (7, .int (0 : Int32))]) rfl ?_
          exact p_M_logic_b64 d (f_M_logic_b9 fu) q9 gk_F v0 v1 v2 v3 v4 v5 v6 (0 : Int32) h
        · refine gk_aload_n (pc := 35) 0 d_M_logic_35 rfl ?_
          refine gk_iload (pc := 36) 6 d_M_logic_36 rfl ?_
          refine gk_callV (pc := 38) (d := (d + 2)) (w' := gv_I) (as := [.int v6]) (n := 1) 7 d_M_logic_38 rfl rfl rfl rfl (Nat.le_of_ble_eq_true rfl) tw_2050 tw_2052 tw_65 tw_99 cw_M_wantTruth hy_M_wantTruth (Nat.le_of_ble_eq_true rfl) (p_M_wantTruth d v0 v6 h) fun x4 h1 => ?_
          refine gk_if_eq (pc := 41) 51 d_M_logic_41 rfl (fun _ => ?_) (fun _ => ?_)
          · refine gk_iload (pc := 51) 5 d_M_logic_51 rfl ?_
            refine gk_weak [0, 1, 2, 3, 4, 6] (L' := [(0, va_rf v0), (1, .int v1), (2, .int v2), (3, .int v3), (4, .int v4), (6, .int v6)]) rfl ?_
            exact p_M_logic_b53 d (f_M_logic_b9 fu) q9 v0 v1 v2 v3 v4 v6 v5 h1
          · refine gk_iload (pc := 44) 5 d_M_logic_44 rfl ?_
            refine gk_iconst (pc := 46) (1 : Int32) d_M_logic_46 rfl ?_
            refine gk_iadd (pc := 47) d_M_logic_47 ?_
            refine gk_goto (pc := 48) 53 d_M_logic_48 rfl ?_
            refine gk_weak [0, 1, 2, 3, 4, 6] (L' := [(0, va_rf v0), (1, .int v1), (2, .int v2), (3, .int v3), (4, .int v4), (6, .int v6)]) rfl ?_
            exact p_M_logic_b53 d (f_M_logic_b9 fu) q9 v0 v1 v2 v3 v4 v6 (v5 + (1 : Int32)) h1
      · refine gk_weak [0, 1, 4, 5] (L' := [(0, va_rf v0), (1, .int v1), (4, .int v4), (5, .int v5)]) rfl ?_
        exact p_M_logic_b209 d v0 v1 v4 v5 h
theorem w_M_logic (d : Nat) (a0 : Option Nat) (a1 : Int32) (a2 : Int32) (a3 : Int32) (h : gk_H) : gk_P gw_V (d + 3) y_M_logic b_M_logic 10 none [] (f_M_logic a0 a1 a2 a3 h) 0 [(0, va_rf a0), (1, .int a1), (2, .int a2), (3, .int a3)] [] h := by
  unfold f_M_logic
  refine gk_iconst (pc := 0) (0 : Int32) d_M_logic_0 rfl ?_
  refine gk_istore (pc := 1) (L' := [(4, .int (0 : Int32)), (0, va_rf a0), (1, .int a1), (2, .int a2), (3, .int a3)]) d_M_logic_1 (Nat.le_of_ble_eq_true rfl) rfl ?_
  refine gk_iconst (pc := 3) (0 : Int32) d_M_logic_3 rfl ?_
  refine gk_istore (pc := 4) (L' := [(5, .int (0 : Int32)), (4, .int (0 : Int32)), (0, va_rf a0), (1, .int a1), (2, .int a2), (3, .int a3)]) d_M_logic_4 (Nat.le_of_ble_eq_true rfl) rfl ?_
  refine gk_iload_n (pc := 6) 4 d_M_logic_6 rfl ?_
  refine gk_istore (pc := 7) (L' := [(6, .int a2), (5, .int (0 : Int32)), (4, .int (0 : Int32)), (0, va_rf a0), (1, .int a1), (2, .int a2), (3, .int a3)]) d_M_logic_7 (Nat.le_of_ble_eq_true rfl) rfl ?_
  refine gk_weak [3, 4, 5, 6, 2, 1, 0] (L' := [(0, va_rf a0), (1, .int a1), (2, .int a2), (3, .int a3), (4, .int (0 : Int32)), (5, .int (0 : Int32)), (6, .int a2)]) rfl ?_
  exact p_M_logic_b9 d gk_F a0 a1 a2 a3 (0 : Int32) (0 : Int32) a2 h
theorem p_M_logic (d : Nat) (a0 : Option Nat) (a1 : Int32) (a2 : Int32) (a3 : Int32) (h : gk_H) : ∀ r h1, f_M_logic a0 a1 a2 a3 h = some (r, h1) → gk_M (d + 3) y_M_logic b_M_logic 10 none [va_rf a0, .int a1, .int a2, .int a3] h (.inl (gv_V r)) h1 :=
  fun r h1 e => gk_M_of2 (by decide +kernel) (by simp [lv_args, gk_cat_rf, gk_catI, gk_catJ, gk_catD, gv_V, gv_I, gv_J, gv_D, gv_R]) (by simp [lg_sl, gk_cat_rf, gk_catI, gk_catJ, gk_catD, gv_V, gv_I, gv_J, gv_D, gv_R]) (w_M_logic d a0 a1 a2 a3 h r h1 e)
theorem d_M_choices_0 : decode b_M_choices 0 = .ok (.iload_n 1, 1) := by decide +kernel
theorem d_M_choices_1 : decode b_M_choices 1 = .ok (.bipush 35, 2) := by decide +kernel
theorem d_M_choices_3 : decode b_M_choices 3 = .ok (.if_icmp .ne 60, 3) := by decide +kernel
theorem d_M_choices_6 : decode b_M_choices 6 = .ok (.aload_n 0, 1) := by decide +kernel
theorem d_M_choices_7 : decode b_M_choices 7 = .ok (.iload_n 2, 1) := by decide +kernel
theorem d_M_choices_8 : decode b_M_choices 8 = .ok (.invokevirtual 366, 3) := by decide +kernel
theorem d_M_choices_11 : decode b_M_choices 11 = .ok (.istore 4, 2) := by decide +kernel
theorem d_M_choices_13 : decode b_M_choices 13 = .ok (.aload_n 0, 1) := by decide +kernel
theorem d_M_choices_14 : decode b_M_choices 14 = .ok (.getfield 62, 3) := by decide +kernel
theorem d_M_choices_17 : decode b_M_choices 17 = .ok (.ifCond .le 4, 3) := by decide +kernel
theorem d_M_choices_20 : decode b_M_choices 20 = .ok (.return_, 1) := by decide +kernel
theorem d_M_choices_21 : decode b_M_choices 21 = .ok (.iload 4, 2) := by decide +kernel
theorem d_M_choices_23 : decode b_M_choices 23 = .ok (.ifCond .eq 15, 3) := by decide +kernel
theorem d_M_choices_26 : decode b_M_choices 26 = .ok (.aload_n 0, 1) := by decide +kernel
theorem d_M_choices_27 : decode b_M_choices 27 = .ok (.iload_n 2, 1) := by decide +kernel
theorem d_M_choices_28 : decode b_M_choices 28 = .ok (.iconst 1, 1) := by decide +kernel
theorem d_M_choices_29 : decode b_M_choices 29 = .ok (.iadd, 1) := by decide +kernel
theorem d_M_choices_30 : decode b_M_choices 30 = .ok (.bipush 16, 2) := by decide +kernel
theorem d_M_choices_32 : decode b_M_choices 32 = .ok (.invokevirtual 83, 3) := by decide +kernel
theorem d_M_choices_35 : decode b_M_choices 35 = .ok (.goto 25, 3) := by decide +kernel
theorem d_M_choices_38 : decode b_M_choices 38 = .ok (.iload_n 3, 1) := by decide +kernel
theorem d_M_choices_39 : decode b_M_choices 39 = .ok (.iconst 3, 1) := by decide +kernel
theorem d_M_choices_40 : decode b_M_choices 40 = .ok (.if_icmp .ne 15, 3) := by decide +kernel
theorem d_M_choices_43 : decode b_M_choices 43 = .ok (.aload_n 0, 1) := by decide +kernel
theorem d_M_choices_44 : decode b_M_choices 44 = .ok (.iload_n 2, 1) := by decide +kernel
theorem d_M_choices_45 : decode b_M_choices 45 = .ok (.iconst 2, 1) := by decide +kernel
theorem d_M_choices_46 : decode b_M_choices 46 = .ok (.iadd, 1) := by decide +kernel
theorem d_M_choices_47 : decode b_M_choices 47 = .ok (.bipush 16, 2) := by decide +kernel
theorem d_M_choices_49 : decode b_M_choices 49 = .ok (.invokevirtual 83, 3) := by decide +kernel
theorem d_M_choices_52 : decode b_M_choices 52 = .ok (.goto 8, 3) := by decide +kernel
theorem d_M_choices_55 : decode b_M_choices 55 = .ok (.aload_n 0, 1) := by decide +kernel
theorem d_M_choices_56 : decode b_M_choices 56 = .ok (.iconst 0, 1) := by decide +kernel
theorem d_M_choices_57 : decode b_M_choices 57 = .ok (.invokevirtual 193, 3) := by decide +kernel
theorem d_M_choices_60 : decode b_M_choices 60 = .ok (.goto 206, 3) := by decide +kernel
theorem d_M_choices_63 : decode b_M_choices 63 = .ok (.iload_n 1, 1) := by decide +kernel
theorem d_M_choices_64 : decode b_M_choices 64 = .ok (.bipush 38, 2) := by decide +kernel
theorem d_M_choices_66 : decode b_M_choices 66 = .ok (.if_icmp .ge 63, 3) := by decide +kernel
theorem d_M_choices_69 : decode b_M_choices 69 = .ok (.aload_n 0, 1) := by decide +kernel
theorem d_M_choices_70 : decode b_M_choices 70 = .ok (.getfield 13, 3) := by decide +kernel
theorem d_M_choices_73 : decode b_M_choices 73 = .ok (.iload_n 2, 1) := by decide +kernel
theorem d_M_choices_74 : decode b_M_choices 74 = .ok (.iaload, 1) := by decide +kernel
theorem d_M_choices_75 : decode b_M_choices 75 = .ok (.iconst 4, 1) := by decide +kernel
theorem d_M_choices_76 : decode b_M_choices 76 = .ok (.if_icmp .ne 29, 3) := by decide +kernel
theorem d_M_choices_79 : decode b_M_choices 79 = .ok (.iload_n 1, 1) := by decide +kernel
theorem d_M_choices_80 : decode b_M_choices 80 = .ok (.bipush 36, 2) := by decide +kernel
theorem d_M_choices_82 : decode b_M_choices 82 = .ok (.if_icmp .eq 19, 3) := by decide +kernel
theorem d_M_choices_85 : decode b_M_choices 85 = .ok (.aload_n 0, 1) := by decide +kernel
theorem d_M_choices_86 : decode b_M_choices 86 = .ok (.getfield 26, 3) := by decide +kernel
theorem d_M_choices_89 : decode b_M_choices 89 = .ok (.bipush 16, 2) := by decide +kernel
theorem d_M_choices_91 : decode b_M_choices 91 = .ok (.iload_n 2, 1) := by decide +kernel
theorem d_M_choices_92 : decode b_M_choices 92 = .ok (.imul, 1) := by decide +kernel
theorem d_M_choices_93 : decode b_M_choices 93 = .ok (.daload, 1) := by decide +kernel
theorem d_M_choices_94 : decode b_M_choices 94 = .ok (.ldc2_w 369, 3) := by decide +kernel
theorem d_M_choices_97 : decode b_M_choices 97 = .ok (.dcmp .l, 1) := by decide +kernel
theorem d_M_choices_98 : decode b_M_choices 98 = .ok (.ifCond .ne 7, 3) := by decide +kernel
theorem d_M_choices_101 : decode b_M_choices 101 = .ok (.iconst 1, 1) := by decide +kernel
theorem d_M_choices_102 : decode b_M_choices 102 = .ok (.goto 4, 3) := by decide +kernel
theorem d_M_choices_105 : decode b_M_choices 105 = .ok (.iconst 0, 1) := by decide +kernel
theorem d_M_choices_106 : decode b_M_choices 106 = .ok (.istore 4, 2) := by decide +kernel
theorem d_M_choices_108 : decode b_M_choices 108 = .ok (.aload_n 0, 1) := by decide +kernel
theorem d_M_choices_109 : decode b_M_choices 109 = .ok (.iload 4, 2) := by decide +kernel
theorem d_M_choices_111 : decode b_M_choices 111 = .ok (.ifCond .eq 9, 3) := by decide +kernel
theorem d_M_choices_114 : decode b_M_choices 114 = .ok (.iload_n 2, 1) := by decide +kernel
theorem d_M_choices_115 : decode b_M_choices 115 = .ok (.iconst 1, 1) := by decide +kernel
theorem d_M_choices_116 : decode b_M_choices 116 = .ok (.iadd, 1) := by decide +kernel
theorem d_M_choices_117 : decode b_M_choices 117 = .ok (.goto 4, 3) := by decide +kernel
theorem d_M_choices_120 : decode b_M_choices 120 = .ok (.iload_n 2, 1) := by decide +kernel
theorem d_M_choices_121 : decode b_M_choices 121 = .ok (.bipush 16, 2) := by decide +kernel
theorem d_M_choices_123 : decode b_M_choices 123 = .ok (.invokevirtual 83, 3) := by decide +kernel
theorem d_M_choices_126 : decode b_M_choices 126 = .ok (.goto 140, 3) := by decide +kernel
theorem d_M_choices_129 : decode b_M_choices 129 = .ok (.iload_n 1, 1) := by decide +kernel
theorem d_M_choices_130 : decode b_M_choices 130 = .ok (.bipush 38, 2) := by decide +kernel
theorem d_M_choices_132 : decode b_M_choices 132 = .ok (.if_icmp .ne 58, 3) := by decide +kernel
theorem d_M_choices_135 : decode b_M_choices 135 = .ok (.aload_n 0, 1) := by decide +kernel
theorem d_M_choices_136 : decode b_M_choices 136 = .ok (.iload_n 2, 1) := by decide +kernel
theorem d_M_choices_137 : decode b_M_choices 137 = .ok (.invokevirtual 296, 3) := by decide +kernel
theorem d_M_choices_140 : decode b_M_choices 140 = .ok (.lstore 4, 2) := by decide +kernel
theorem d_M_choices_142 : decode b_M_choices 142 = .ok (.aload_n 0, 1) := by decide +kernel
theorem d_M_choices_143 : decode b_M_choices 143 = .ok (.getfield 62, 3) := by decide +kernel
theorem d_M_choices_146 : decode b_M_choices 146 = .ok (.ifCond .ne 23, 3) := by decide +kernel
theorem d_M_choices_149 : decode b_M_choices 149 = .ok (.lload 4, 2) := by decide +kernel
theorem d_M_choices_151 : decode b_M_choices 151 = .ok (.lconst 1, 1) := by decide +kernel
theorem d_M_choices_152 : decode b_M_choices 152 = .ok (.lcmp, 1) := by decide +kernel
theorem d_M_choices_153 : decode b_M_choices 153 = .ok (.ifCond .lt 11, 3) := by decide +kernel
theorem d_M_choices_156 : decode b_M_choices 156 = .ok (.lload 4, 2) := by decide +kernel
theorem d_M_choices_158 : decode b_M_choices 158 = .ok (.iload_n 3, 1) := by decide +kernel
theorem d_M_choices_159 : decode b_M_choices 159 = .ok (.i2l, 1) := by decide +kernel
theorem d_M_choices_160 : decode b_M_choices 160 = .ok (.lcmp, 1) := by decide +kernel
theorem d_M_choices_161 : decode b_M_choices 161 = .ok (.ifCond .lt 8, 3) := by decide +kernel
theorem d_M_choices_164 : decode b_M_choices 164 = .ok (.aload_n 0, 1) := by decide +kernel
theorem d_M_choices_165 : decode b_M_choices 165 = .ok (.iconst 3, 1) := by decide +kernel
theorem d_M_choices_166 : decode b_M_choices 166 = .ok (.invokevirtual 58, 3) := by decide +kernel
theorem d_M_choices_169 : decode b_M_choices 169 = .ok (.aload_n 0, 1) := by decide +kernel
theorem d_M_choices_170 : decode b_M_choices 170 = .ok (.getfield 62, 3) := by decide +kernel
theorem d_M_choices_173 : decode b_M_choices 173 = .ok (.ifCond .ne 14, 3) := by decide +kernel
theorem d_M_choices_176 : decode b_M_choices 176 = .ok (.aload_n 0, 1) := by decide +kernel
theorem d_M_choices_177 : decode b_M_choices 177 = .ok (.iload_n 2, 1) := by decide +kernel
theorem d_M_choices_178 : decode b_M_choices 178 = .ok (.lload 4, 2) := by decide +kernel
theorem d_M_choices_180 : decode b_M_choices 180 = .ok (.l2i, 1) := by decide +kernel
theorem d_M_choices_181 : decode b_M_choices 181 = .ok (.iadd, 1) := by decide +kernel
theorem d_M_choices_182 : decode b_M_choices 182 = .ok (.bipush 16, 2) := by decide +kernel
theorem d_M_choices_184 : decode b_M_choices 184 = .ok (.invokevirtual 83, 3) := by decide +kernel
theorem d_M_choices_187 : decode b_M_choices 187 = .ok (.goto 79, 3) := by decide +kernel
theorem d_M_choices_190 : decode b_M_choices 190 = .ok (.iload_n 1, 1) := by decide +kernel
theorem d_M_choices_191 : decode b_M_choices 191 = .ok (.bipush 42, 2) := by decide +kernel
theorem d_M_choices_193 : decode b_M_choices 193 = .ok (.if_icmp .ge 13, 3) := by decide +kernel
theorem d_M_choices_196 : decode b_M_choices 196 = .ok (.aload_n 0, 1) := by decide +kernel
theorem d_M_choices_197 : decode b_M_choices 197 = .ok (.iload_n 1, 1) := by decide +kernel
theorem d_M_choices_198 : decode b_M_choices 198 = .ok (.iload_n 2, 1) := by decide +kernel
theorem d_M_choices_199 : decode b_M_choices 199 = .ok (.iload_n 3, 1) := by decide +kernel
theorem d_M_choices_200 : decode b_M_choices 200 = .ok (.invokevirtual 371, 3) := by decide +kernel
theorem d_M_choices_203 : decode b_M_choices 203 = .ok (.goto 63, 3) := by decide +kernel
theorem d_M_choices_206 : decode b_M_choices 206 = .ok (.iload_n 1, 1) := by decide +kernel
theorem d_M_choices_207 : decode b_M_choices 207 = .ok (.bipush 42, 2) := by decide +kernel
theorem d_M_choices_209 : decode b_M_choices 209 = .ok (.if_icmp .ne 27, 3) := by decide +kernel
theorem d_M_choices_212 : decode b_M_choices 212 = .ok (.aload_n 0, 1) := by decide +kernel
theorem d_M_choices_213 : decode b_M_choices 213 = .ok (.iload_n 2, 1) := by decide +kernel
theorem d_M_choices_214 : decode b_M_choices 214 = .ok (.invokevirtual 366, 3) := by decide +kernel
theorem d_M_choices_217 : decode b_M_choices 217 = .ok (.istore 4, 2) := by decide +kernel
theorem d_M_choices_219 : decode b_M_choices 219 = .ok (.aload_n 0, 1) := by decide +kernel
theorem d_M_choices_220 : decode b_M_choices 220 = .ok (.iload 4, 2) := by decide +kernel
theorem d_M_choices_222 : decode b_M_choices 222 = .ok (.ifCond .ne 7, 3) := by decide +kernel
theorem d_M_choices_225 : decode b_M_choices 225 = .ok (.iconst 1, 1) := by decide +kernel
theorem d_M_choices_226 : decode b_M_choices 226 = .ok (.goto 4, 3) := by decide +kernel
theorem d_M_choices_229 : decode b_M_choices 229 = .ok (.iconst 0, 1) := by decide +kernel
theorem d_M_choices_230 : decode b_M_choices 230 = .ok (.invokevirtual 193, 3) := by decide +kernel
theorem d_M_choices_233 : decode b_M_choices 233 = .ok (.goto 33, 3) := by decide +kernel
theorem d_M_choices_236 : decode b_M_choices 236 = .ok (.iload_n 1, 1) := by decide +kernel
theorem d_M_choices_237 : decode b_M_choices 237 = .ok (.bipush 43, 2) := by decide +kernel
theorem d_M_choices_239 : decode b_M_choices 239 = .ok (.if_icmp .ne 12, 3) := by decide +kernel
theorem d_M_choices_242 : decode b_M_choices 242 = .ok (.aload_n 0, 1) := by decide +kernel
theorem d_M_choices_243 : decode b_M_choices 243 = .ok (.bipush 7, 2) := by decide +kernel
theorem d_M_choices_245 : decode b_M_choices 245 = .ok (.invokevirtual 58, 3) := by decide +kernel
theorem d_M_choices_248 : decode b_M_choices 248 = .ok (.goto 18, 3) := by decide +kernel
theorem d_M_choices_251 : decode b_M_choices 251 = .ok (.aload_n 0, 1) := by decide +kernel
theorem d_M_choices_252 : decode b_M_choices 252 = .ok (.iload_n 1, 1) := by decide +kernel
theorem d_M_choices_253 : decode b_M_choices 253 = .ok (.bipush 44, 2) := by decide +kernel
theorem d_M_choices_255 : decode b_M_choices 255 = .ok (.if_icmp .ne 7, 3) := by decide +kernel
theorem d_M_choices_258 : decode b_M_choices 258 = .ok (.iconst 1, 1) := by decide +kernel
theorem d_M_choices_259 : decode b_M_choices 259 = .ok (.goto 4, 3) := by decide +kernel
theorem d_M_choices_262 : decode b_M_choices 262 = .ok (.iconst 0, 1) := by decide +kernel
theorem d_M_choices_263 : decode b_M_choices 263 = .ok (.invokevirtual 193, 3) := by decide +kernel
theorem d_M_choices_266 : decode b_M_choices 266 = .ok (.return_, 1) := by decide +kernel
theorem p_M_choices_b266 (d : Nat)   (h : gk_H) : gk_P gw_V (d + 5) y_M_choices b_M_choices 6 none [] (f_M_choices_b266   h) 266 [] [] h := by
  unfold f_M_choices_b266
  exact gk_vret (pc := 266) rfl d_M_choices_266 rfl
theorem p_M_choices_b263 (d : Nat)  (s0 : Option Nat) (s1 : Int32) (h : gk_H) : gk_P gw_V (d + 5) y_M_choices b_M_choices 6 none [] (f_M_choices_b263  s0 s1 h) 263 [] [.int s1, va_rf s0] h := by
  unfold f_M_choices_b263
  refine gk_callV (pc := 263) (d := (d + 4)) (w' := gv_V) (as := [.int s1]) (n := 1) 7 d_M_choices_263 rfl rfl rfl rfl (Nat.le_of_ble_eq_true rfl) tw_1826 tw_1828 tw_24 tw_99 cw_M_answerTruth hy_M_answerTruth (Nat.le_of_ble_eq_true rfl) (p_M_answerTruth (d + 3) s0 s1 h) fun _ h1 => ?_
  exact p_M_choices_b266 d h1
theorem p_M_choices_b230 (d : Nat)  (s0 : Option Nat) (s1 : Int32) (h : gk_H) : gk_P gw_V (d + 5) y_M_choices b_M_choices 6 none [] (f_M_choices_b230  s0 s1 h) 230 [] [.int s1, va_rf s0] h := by
  unfold f_M_choices_b230
  refine gk_callV (pc := 230) (d := (d + 4)) (w' := gv_V) (as := [.int s1]) (n := 1) 7 d_M_choices_230 rfl rfl rfl rfl (Nat.le_of_ble_eq_true rfl) tw_1826 tw_1828 tw_24 tw_99 cw_M_answerTruth hy_M_answerTruth (Nat.le_of_ble_eq_true rfl) (p_M_answerTruth (d + 3) s0 s1 h) fun _ h1 => ?_
  refine gk_goto (pc := 233) 266 d_M_choices_233 rfl ?_
  exact p_M_choices_b266 d h1
theorem p_M_choices_b187 (d : Nat)   (h : gk_H) : gk_P gw_V (d + 5) y_M_choices b_M_choices 6 none [] (f_M_choices_b187   h) 187 [] [] h := by
  unfold f_M_choices_b187
  refine gk_goto (pc := 187) 266 d_M_choices_187 rfl ?_
  exact p_M_choices_b266 d h
theorem p_M_choices_b169 (d : Nat)  (v0 : Option Nat) (v2 : Int32) (v4 : Int64) (h : gk_H) : gk_P gw_V (d + 5) y_M_choices b_M_choices 6 none [] (f_M_choices_b169  v0 v2 v4 h) 169 [(0, va_rf v0), (2, .int v2), (4, .long v4)] [] h := by
  unfold f_M_choices_b169
  refine gk_aload_n (pc := 169) 0 d_M_choices_169 rfl ?_
  refine gk_getI (pc := 170) 7 11 d_M_choices_170 rfl (Nat.le_of_ble_eq_true rfl) tw_1656 fun x1 => ?_
  refine gk_if_ne (pc := 173) 187 d_M_choices_173 rfl (fun _ => ?_) (fun _ => ?_)
  · refine gk_aload_n (pc := 176) 0 d_M_choices_176 rfl ?_
    refine gk_iload_n (pc := 177) 1 d_M_choices_177 rfl ?_
    refine gk_lload (pc := 178) 2 d_M_choices_178 rfl ?_
    refine gk_l2i (pc := 180) d_M_choices_180 ?_
    refine gk_iadd (pc := 181) d_M_choices_181 ?_
    refine gk_bipush (pc := 182) (16 : Int32) d_M_choices_182 rfl ?_
    refine gk_callV (pc := 184) (d := (d + 4)) (w' := gv_V) (as := [.int (v2 + (Int64.toInt32 v4)), .int (16 : Int32)]) (n := 2) 7 d_M_choices_184 rfl rfl rfl rfl (Nat.le_of_ble_eq_true rfl) tw_1765 tw_1767 tw_17 tw_99 cw_M_copyValue hy_M_copyValue (Nat.le_of_ble_eq_true rfl) (p_M_copyValue (d + 3) v0 (v2 + (Int64.toInt32 v4)) (16 : Int32) h) fun _ h1 => ?_
    refine gk_weak [] (L' := []) rfl ?_
    exact p_M_choices_b187 d h1
  · refine gk_weak [] (L' := []) rfl ?_
    exact p_M_choices_b187 d h
theorem p_M_choices_b164 (d : Nat)  (v0 : Option Nat) (v2 : Int32) (v4 : Int64) (h : gk_H) : gk_P gw_V (d + 5) y_M_choices b_M_choices 6 none [] (f_M_choices_b164  v0 v2 v4 h) 164 [(0, va_rf v0), (2, .int v2), (4, .long v4)] [] h := by
  unfold f_M_choices_b164
  refine gk_aload_n (pc := 164) 0 d_M_choices_164 rfl ?_
  refine gk_iconst (pc := 165) (3 : Int32) d_M_choices_165 rfl ?_
  refine gk_callV (pc := 166) (d := (d + 4)) (w' := gv_V) (as := [.int (3 : Int32)]) (n := 1) 7 d_M_choices_166 rfl rfl rfl rfl (Nat.le_of_ble_eq_true rfl) tw_1805 tw_1807 tw_21 tw_99 cw_M_fail hy_M_fail (Nat.le_of_ble_eq_true rfl) (p_M_fail (d + 4) v0 (3 : Int32) h) fun _ h1 => ?_
  exact p_M_choices_b169 d v0 v2 v4 h1
theorem p_M_choices_b121 (d : Nat)  (s0 : Option Nat) (s1 : Int32) (h : gk_H) : gk_P gw_V (d + 5) y_M_choices b_M_choices 6 none [] (f_M_choices_b121  s0 s1 h) 121 [] [.int s1, va_rf s0] h := by
  unfold f_M_choices_b121
  refine gk_bipush (pc := 121) (16 : Int32) d_M_choices_121 rfl ?_
  refine gk_callV (pc := 123) (d := (d + 4)) (w' := gv_V) (as := [.int s1, .int (16 : Int32)]) (n := 2) 7 d_M_choices_123 rfl rfl rfl rfl (Nat.le_of_ble_eq_true rfl) tw_1765 tw_1767 tw_17 tw_99 cw_M_copyValue hy_M_copyValue (Nat.le_of_ble_eq_true rfl) (p_M_copyValue (d + 3) s0 s1 (16 : Int32) h) fun _ h1 => ?_
  refine gk_goto (pc := 126) 266 d_M_choices_126 rfl ?_
  exact p_M_choices_b266 d h1
theorem p_M_choices_b106 (d : Nat)  (v0 : Option Nat) (v2 : Int32) (s0 : Int32) (h : gk_H) : gk_P gw_V (d + 5) y_M_choices b_M_choices 6 none [] (f_M_choices_b106  v0 v2 s0 h) 106 [(0, va_rf v0), (2, .int v2)] [.int s0] h := by
  unfold f_M_choices_b106
  refine gk_istore (pc := 106) (L' := [(4, .int s0), (0, va_rf v0), (2, .int v2)]) d_M_choices_106 (Nat.le_of_ble_eq_true rfl) rfl ?_
  refine gk_aload_n (pc := 108) 1 d_M_choices_108 rfl ?_
  refine gk_iload (pc := 109) 0 d_M_choices_109 rfl ?_
  refine gk_if_eq (pc := 111) 120 d_M_choices_111 rfl (fun _ => ?_) (fun _ => ?_)
  · refine gk_iload_n (pc := 120) 2 d_M_choices_120 rfl ?_
    refine gk_weak [] (L' := []) rfl ?_
    exact p_M_choices_b121 d v0 v2 h
  · refine gk_iload_n (pc := 114) 2 d_M_choices_114 rfl ?_
    refine gk_iconst (pc := 115) (1 : Int32) d_M_choices_115 rfl ?_
    refine gk_iadd (pc := 116) d_M_choices_116 ?_
    refine gk_goto (pc := 117) 121 d_M_choices_117 rfl ?_
    refine gk_weak [] (L' := []) rfl ?_
    exact p_M_choices_b121 d v0 (v2 + (1 : Int32)) h
theorem p_M_choices_b105 (d : Nat)  (v0 : Option Nat) (v2 : Int32) (h : gk_H) : gk_P gw_V (d + 5) y_M_choices b_M_choices 6 none [] (f_M_choices_b105  v0 v2 h) 105 [(0, va_rf v0), (2, .int v2)] [] h := by
  unfold f_M_choices_b105
  refine gk_iconst (pc := 105) (0 : Int32) d_M_choices_105 rfl ?_
  exact p_M_choices_b106 d v0 v2 (0 : Int32) h
theorem p_M_choices_b101 (d : Nat)  (v0 : Option Nat) (v2 : Int32) (h : gk_H) : gk_P gw_V (d + 5) y_M_choices b_M_choices 6 none [] (f_M_choices_b101  v0 v2 h) 101 [(0, va_rf v0), (2, .int v2)] [] h := by
  unfold f_M_choices_b101
  refine gk_iconst (pc := 101) (1 : Int32) d_M_choices_101 rfl ?_
  refine gk_goto (pc := 102) 106 d_M_choices_102 rfl ?_
  exact p_M_choices_b106 d v0 v2 (1 : Int32) h
theorem p_M_choices_b60 (d : Nat)   (h : gk_H) : gk_P gw_V (d + 5) y_M_choices b_M_choices 6 none [] (f_M_choices_b60   h) 60 [] [] h := by
  unfold f_M_choices_b60
  refine gk_goto (pc := 60) 266 d_M_choices_60 rfl ?_
  exact p_M_choices_b266 d h
theorem w_M_choices (d : Nat) (a0 : Option Nat) (a1 : Int32) (a2 : Int32) (a3 : Int32) (h : gk_H) : gk_P gw_V (d + 5) y_M_choices b_M_choices 6 none [] (f_M_choices a0 a1 a2 a3 h) 0 [(0, va_rf a0), (1, .int a1), (2, .int a2), (3, .int a3)] [] h := by
  unfold f_M_choices
  refine gk_iload_n (pc := 0) 1 d_M_choices_0 rfl ?_
  refine gk_bipush (pc := 1) (35 : Int32) d_M_choices_1 rfl ?_
  refine gk_icmp_ne (pc := 3) 63 d_M_choices_3 rfl (fun _ => ?_) (fun _ => ?_)
  · refine gk_aload_n (pc := 6) 0 d_M_choices_6 rfl ?_
    refine gk_iload_n (pc := 7) 2 d_M_choices_7 rfl ?_
    refine gk_callV (pc := 8) (d := (d + 4)) (w' := gv_I) (as := [.int a2]) (n := 1) 7 d_M_choices_8 rfl rfl rfl rfl (Nat.le_of_ble_eq_true rfl) tw_2050 tw_2052 tw_65 tw_99 cw_M_wantTruth hy_M_wantTruth (Nat.le_of_ble_eq_true rfl) (p_M_wantTruth (d + 2) a0 a2 h) fun x1 h1 => ?_
    refine gk_istore (pc := 11) (L' := [(4, .int x1), (0, va_rf a0), (1, .int a1), (2, .int a2), (3, .int a3)]) d_M_choices_11 (Nat.le_of_ble_eq_true rfl) rfl ?_
    refine gk_aload_n (pc := 13) 1 d_M_choices_13 rfl ?_
    refine gk_getI (pc := 14) 7 11 d_M_choices_14 rfl (Nat.le_of_ble_eq_true rfl) tw_1656 fun x2 => ?_
    refine gk_if_le (pc := 17) 21 d_M_choices_17 rfl (fun _ => ?_) (fun _ => ?_)
    · refine gk_iload (pc := 21) 0 d_M_choices_21 rfl ?_
      refine gk_if_eq (pc := 23) 38 d_M_choices_23 rfl (fun _ => ?_) (fun _ => ?_)
      · refine gk_iload_n (pc := 38) 4 d_M_choices_38 rfl ?_
        refine gk_iconst (pc := 39) (3 : Int32) d_M_choices_39 rfl ?_
        refine gk_icmp_ne (pc := 40) 55 d_M_choices_40 rfl (fun _ => ?_) (fun _ => ?_)
        · refine gk_aload_n (pc := 43) 1 d_M_choices_43 rfl ?_
          refine gk_iload_n (pc := 44) 3 d_M_choices_44 rfl ?_
          refine gk_iconst (pc := 45) (2 : Int32) d_M_choices_45 rfl ?_
          refine gk_iadd (pc := 46) d_M_choices_46 ?_
          refine gk_bipush (pc := 47) (16 : Int32) d_M_choices_47 rfl ?_
          refine gk_callV (pc := 49) (d := (d + 4)) (w' := gv_V) (as := [.int (a2 + (2 : Int32)), .int (16 : Int32)]) (n := 2) 7 d_M_choices_49 rfl rfl rfl rfl (Nat.le_of_ble_eq_true rfl) tw_1765 tw_1767 tw_17 tw_99 cw_M_copyValue hy_M_copyValue (Nat.le_of_ble_eq_true rfl) (p_M_copyValue (d + 3) a0 (a2 + (2 : Int32)) (16 : Int32) h1) fun _ h2 => ?_
          refine gk_goto (pc := 52) 60 d_M_choices_52 rfl ?_
          refine gk_weak [] (L' := []) rfl ?_
          exact p_M_choices_b60 d h2
        · refine gk_aload_n (pc := 55) 1 d_M_choices_55 rfl ?_
          refine gk_iconst (pc := 56) (0 : Int32) d_M_choices_56 rfl ?_
          refine gk_callV (pc := 57) (d := (d + 4)) (w' := gv_V) (as := [.int (0 : Int32)]) (n := 1) 7 d_M_choices_57 rfl rfl rfl rfl (Nat.le_of_ble_eq_true rfl) tw_1826 tw_1828 tw_24 tw_99 cw_M_answerTruth hy_M_answerTruth (Nat.le_of_ble_eq_true rfl) (p_M_answerTruth (d + 3) a0 (0 : Int32) h1) fun _ h3 => ?_
          refine gk_weak [] (L' := []) rfl ?_
          exact p_M_choices_b60 d h3
      · refine gk_aload_n (pc := 26) 1 d_M_choices_26 rfl ?_
        refine gk_iload_n (pc := 27) 3 d_M_choices_27 rfl ?_
        refine gk_iconst (pc := 28) (1 : Int32) d_M_choices_28 rfl ?_
        refine gk_iadd (pc := 29) d_M_choices_29 ?_
        refine gk_bipush (pc := 30) (16 : Int32) d_M_choices_30 rfl ?_
        refine gk_callV (pc := 32) (d := (d + 4)) (w' := gv_V) (as := [.int (a2 + (1 : Int32)), .int (16 : Int32)]) (n := 2) 7 d_M_choices_32 rfl rfl rfl rfl (Nat.le_of_ble_eq_true rfl) tw_1765 tw_1767 tw_17 tw_99 cw_M_copyValue hy_M_copyValue (Nat.le_of_ble_eq_true rfl) (p_M_copyValue (d + 3) a0 (a2 + (1 : Int32)) (16 : Int32) h1) fun _ h4 => ?_
        refine gk_goto (pc := 35) 60 d_M_choices_35 rfl ?_
        refine gk_weak [] (L' := []) rfl ?_
        exact p_M_choices_b60 d h4
    · exact gk_vret (pc := 20) rfl d_M_choices_20 rfl
  · refine gk_iload_n (pc := 63) 1 d_M_choices_63 rfl ?_
    refine gk_bipush (pc := 64) (38 : Int32) d_M_choices_64 rfl ?_
    refine gk_icmp_ge (pc := 66) 129 d_M_choices_66 rfl (fun _ => ?_) (fun _ => ?_)
    · refine gk_iload_n (pc := 129) 1 d_M_choices_129 rfl ?_
      refine gk_bipush (pc := 130) (38 : Int32) d_M_choices_130 rfl ?_
      refine gk_icmp_ne (pc := 132) 190 d_M_choices_132 rfl (fun _ => ?_) (fun _ => ?_)
      · refine gk_aload_n (pc := 135) 0 d_M_choices_135 rfl ?_
        refine gk_iload_n (pc := 136) 2 d_M_choices_136 rfl ?_
        refine gk_callV (pc := 137) (d := (d + 4)) (w' := gv_J) (as := [.int a2]) (n := 1) 7 d_M_choices_137 rfl rfl rfl rfl (Nat.le_of_ble_eq_true rfl) tw_1954 tw_1956 tw_45 tw_99 cw_M_wantWhole hy_M_wantWhole (Nat.le_of_ble_eq_true rfl) (p_M_wantWhole d a0 a2 h) fun x3 h5 => ?_
        refine gk_lstore (pc := 140) (L' := [(4, .long x3), (0, va_rf a0), (1, .int a1), (2, .int a2), (3, .int a3)]) d_M_choices_140 (Nat.le_of_ble_eq_true rfl) rfl ?_
        refine gk_aload_n (pc := 142) 1 d_M_choices_142 rfl ?_
        refine gk_getI (pc := 143) 7 11 d_M_choices_143 rfl (Nat.le_of_ble_eq_true rfl) tw_1656 fun x4 => ?_
        refine gk_if_ne (pc := 146) 169 d_M_choices_146 rfl (fun _ => ?_) (fun _ => ?_)
        · refine gk_lload (pc := 149) 0 d_M_choices_149 rfl ?_
          refine gk_lconst (pc := 151) (1 : Int64) d_M_choices_151 rfl ?_
          refine gk_lcmp (pc := 152) d_M_choices_152 ?_
          refine gk_if_lt (pc := 153) 164 d_M_choices_153 rfl (fun _ => ?_) (fun _ => ?_)
          · refine gk_weak [1, 3, 0] (L' := [(0, va_rf a0), (2, .int a2), (4, .long x3)]) rfl ?_
            exact p_M_choices_b164 d a0 a2 x3 h5
          · refine gk_lload (pc := 156) 0 d_M_choices_156 rfl ?_
            refine gk_iload_n (pc := 158) 4 d_M_choices_158 rfl ?_
            refine gk_i2l (pc := 159) d_M_choices_159 ?_
            refine gk_lcmp (pc := 160) d_M_choices_160 ?_
            refine gk_if_lt (pc := 161) 169 d_M_choices_161 rfl (fun _ => ?_) (fun _ => ?_)
            · refine gk_weak [1, 3, 0] (L' := [(0, va_rf a0), (2, .int a2), (4, .long x3)]) rfl ?_
              exact p_M_choices_b169 d a0 a2 x3 h5
            · refine gk_weak [1, 3, 0] (L' := [(0, va_rf a0), (2, .int a2), (4, .long x3)]) rfl ?_
              exact p_M_choices_b164 d a0 a2 x3 h5
        · refine gk_weak [1, 3, 0] (L' := [(0, va_rf a0), (2, .int a2), (4, .long x3)]) rfl ?_
          exact p_M_choices_b169 d a0 a2 x3 h5
      · refine gk_iload_n (pc := 190) 1 d_M_choices_190 rfl ?_
        refine gk_bipush (pc := 191) (42 : Int32) d_M_choices_191 rfl ?_
        refine gk_icmp_ge (pc := 193) 206 d_M_choices_193 rfl (fun _ => ?_) (fun _ => ?_)
        · refine gk_iload_n (pc := 206) 1 d_M_choices_206 rfl ?_
          refine gk_bipush (pc := 207) (42 : Int32) d_M_choices_207 rfl ?_
          refine gk_icmp_ne (pc := 209) 236 d_M_choices_209 rfl (fun _ => ?_) (fun _ => ?_)
          · refine gk_aload_n (pc := 212) 0 d_M_choices_212 rfl ?_
            refine gk_iload_n (pc := 213) 2 d_M_choices_213 rfl ?_
            refine gk_callV (pc := 214) (d := (d + 4)) (w' := gv_I) (as := [.int a2]) (n := 1) 7 d_M_choices_214 rfl rfl rfl rfl (Nat.le_of_ble_eq_true rfl) tw_2050 tw_2052 tw_65 tw_99 cw_M_wantTruth hy_M_wantTruth (Nat.le_of_ble_eq_true rfl) (p_M_wantTruth (d + 2) a0 a2 h) fun x5 h6 => ?_
            refine gk_istore (pc := 217) (L' := [(4, .int x5), (0, va_rf a0), (1, .int a1), (2, .int a2), (3, .int a3)]) d_M_choices_217 (Nat.le_of_ble_eq_true rfl) rfl ?_
            refine gk_aload_n (pc := 219) 1 d_M_choices_219 rfl ?_
            refine gk_iload (pc := 220) 0 d_M_choices_220 rfl ?_
            refine gk_if_ne (pc := 222) 229 d_M_choices_222 rfl (fun _ => ?_) (fun _ => ?_)
            · refine gk_iconst (pc := 225) (1 : Int32) d_M_choices_225 rfl ?_
              refine gk_goto (pc := 226) 230 d_M_choices_226 rfl ?_
              refine gk_weak [] (L' := []) rfl ?_
              exact p_M_choices_b230 d a0 (1 : Int32) h6
            · refine gk_iconst (pc := 229) (0 : Int32) d_M_choices_229 rfl ?_
              refine gk_weak [] (L' := []) rfl ?_
              exact p_M_choices_b230 d a0 (0 : Int32) h6
          · refine gk_iload_n (pc := 236) 1 d_M_choices_236 rfl ?_
            refine gk_bipush (pc := 237) (43 : Int32) d_M_choices_237 rfl ?_
            refine gk_icmp_ne (pc := 239) 251 d_M_choices_239 rfl (fun _ => ?_) (fun _ => ?_)
            · refine gk_aload_n (pc := 242) 0 d_M_choices_242 rfl ?_
              refine gk_bipush (pc := 243) (7 : Int32) d_M_choices_243 rfl ?_
              refine gk_callV (pc := 245) (d := (d + 4)) (w' := gv_V) (as := [.int (7 : Int32)]) (n := 1) 7 d_M_choices_245 rfl rfl rfl rfl (Nat.le_of_ble_eq_true rfl) tw_1805 tw_1807 tw_21 tw_99 cw_M_fail hy_M_fail (Nat.le_of_ble_eq_true rfl) (p_M_fail (d + 4) a0 (7 : Int32) h) fun _ h7 => ?_
              refine gk_goto (pc := 248) 266 d_M_choices_248 rfl ?_
              refine gk_weak [] (L' := []) rfl ?_
              exact p_M_choices_b266 d h7
            · refine gk_aload_n (pc := 251) 0 d_M_choices_251 rfl ?_
              refine gk_iload_n (pc := 252) 1 d_M_choices_252 rfl ?_
              refine gk_bipush (pc := 253) (44 : Int32) d_M_choices_253 rfl ?_
              refine gk_icmp_ne (pc := 255) 262 d_M_choices_255 rfl (fun _ => ?_) (fun _ => ?_)
              · refine gk_iconst (pc := 258) (1 : Int32) d_M_choices_258 rfl ?_
                refine gk_goto (pc := 259) 263 d_M_choices_259 rfl ?_
                refine gk_weak [] (L' := []) rfl ?_
                exact p_M_choices_b263 d a0 (1 : Int32) h
              · refine gk_iconst (pc := 262) (0 : Int32) d_M_choices_262 rfl ?_
                refine gk_weak [] (L' := []) rfl ?_
                exact p_M_choices_b263 d a0 (0 : Int32) h
        · refine gk_aload_n (pc := 196) 0 d_M_choices_196 rfl ?_
          refine gk_iload_n (pc := 197) 1 d_M_choices_197 rfl ?_
          refine gk_iload_n (pc := 198) 2 d_M_choices_198 rfl ?_
          refine gk_iload_n (pc := 199) 3 d_M_choices_199 rfl ?_
          refine gk_callV (pc := 200) (d := (d + 4)) (w' := gv_V) (as := [.int a1, .int a2, .int a3]) (n := 3) 7 d_M_choices_200 rfl rfl rfl rfl (Nat.le_of_ble_eq_true rfl) tw_2059 tw_2061 tw_67 tw_99 cw_M_logic hy_M_logic (Nat.le_of_ble_eq_true rfl) (p_M_logic (d + 1) a0 a1 a2 a3 h) fun _ h8 => ?_
          refine gk_goto (pc := 203) 266 d_M_choices_203 rfl ?_
          refine gk_weak [] (L' := []) rfl ?_
          exact p_M_choices_b266 d h8
    · refine gk_aload_n (pc := 69) 0 d_M_choices_69 rfl ?_
      refine gk_getR (pc := 70) 7 4 d_M_choices_70 rfl (Nat.le_of_ble_eq_true rfl) tw_1649 fun x6 => ?_
      refine gk_iload_n (pc := 73) 2 d_M_choices_73 rfl ?_
      refine gk_iald (pc := 74) d_M_choices_74 fun x7 => ?_
      refine gk_iconst (pc := 75) (4 : Int32) d_M_choices_75 rfl ?_
      refine gk_icmp_ne (pc := 76) 105 d_M_choices_76 rfl (fun _ => ?_) (fun _ => ?_)
      · refine gk_iload_n (pc := 79) 1 d_M_choices_79 rfl ?_
        refine gk_bipush (pc := 80) (36 : Int32) d_M_choices_80 rfl ?_
        refine gk_icmp_eq (pc := 82) 101 d_M_choices_82 rfl (fun _ => ?_) (fun _ => ?_)
        · refine gk_weak [0, 2] (L' := [(0, va_rf a0), (2, .int a2)]) rfl ?_
          exact p_M_choices_b101 d a0 a2 h
        · refine gk_aload_n (pc := 85) 0 d_M_choices_85 rfl ?_
          refine gk_getR (pc := 86) 7 8 d_M_choices_86 rfl (Nat.le_of_ble_eq_true rfl) tw_1653 fun x8 => ?_
          refine gk_bipush (pc := 89) (16 : Int32) d_M_choices_89 rfl ?_
          refine gk_iload_n (pc := 91) 2 d_M_choices_91 rfl ?_
          refine gk_imul (pc := 92) d_M_choices_92 ?_
          refine gk_dald (pc := 93) d_M_choices_93 fun x9 => ?_
          refine gk_ldc2d (pc := 94) tw_2058 d_M_choices_94 ?_
          refine gk_dcmp (pc := 97) d_M_choices_97 ?_
          refine gk_if_ne (pc := 98) 105 d_M_choices_98 rfl (fun _ => ?_) (fun _ => ?_)
          · refine gk_weak [0, 2] (L' := [(0, va_rf a0), (2, .int a2)]) rfl ?_
            exact p_M_choices_b101 d a0 a2 h
          · refine gk_weak [0, 2] (L' := [(0, va_rf a0), (2, .int a2)]) rfl ?_
            exact p_M_choices_b105 d a0 a2 h
      · refine gk_weak [0, 2] (L' := [(0, va_rf a0), (2, .int a2)]) rfl ?_
        exact p_M_choices_b105 d a0 a2 h
theorem p_M_choices (d : Nat) (a0 : Option Nat) (a1 : Int32) (a2 : Int32) (a3 : Int32) (h : gk_H) : ∀ r h1, f_M_choices a0 a1 a2 a3 h = some (r, h1) → gk_M (d + 5) y_M_choices b_M_choices 6 none [va_rf a0, .int a1, .int a2, .int a3] h (.inl (gv_V r)) h1 :=
  fun r h1 e => gk_M_of2 (by decide +kernel) (by simp [lv_args, gk_cat_rf, gk_catI, gk_catJ, gk_catD, gv_V, gv_I, gv_J, gv_D, gv_R]) (by simp [lg_sl, gk_cat_rf, gk_catI, gk_catJ, gk_catD, gv_V, gv_I, gv_J, gv_D, gv_R]) (w_M_choices d a0 a1 a2 a3 h r h1 e)
theorem d_M_answerCell_0 : decode b_M_answerCell 0 = .ok (.aload_n 0, 1) := by decide +kernel
theorem d_M_answerCell_1 : decode b_M_answerCell 1 = .ok (.bipush 16, 2) := by decide +kernel
theorem d_M_answerCell_3 : decode b_M_answerCell 3 = .ok (.aload_n 0, 1) := by decide +kernel
theorem d_M_answerCell_4 : decode b_M_answerCell 4 = .ok (.getfield 23, 3) := by decide +kernel
theorem d_M_answerCell_7 : decode b_M_answerCell 7 = .ok (.iload_n 1, 1) := by decide +kernel
theorem d_M_answerCell_8 : decode b_M_answerCell 8 = .ok (.iaload, 1) := by decide +kernel
theorem d_M_answerCell_9 : decode b_M_answerCell 9 = .ok (.dconst 0, 1) := by decide +kernel
theorem d_M_answerCell_10 : decode b_M_answerCell 10 = .ok (.invokevirtual 76, 3) := by decide +kernel
theorem d_M_answerCell_13 : decode b_M_answerCell 13 = .ok (.aload_n 0, 1) := by decide +kernel
theorem d_M_answerCell_14 : decode b_M_answerCell 14 = .ok (.iload_n 1, 1) := by decide +kernel
theorem d_M_answerCell_15 : decode b_M_answerCell 15 = .ok (.sipush 256, 3) := by decide +kernel
theorem d_M_answerCell_18 : decode b_M_answerCell 18 = .ok (.invokevirtual 65, 3) := by decide +kernel
theorem d_M_answerCell_21 : decode b_M_answerCell 21 = .ok (.return_, 1) := by decide +kernel
theorem w_M_answerCell (d : Nat) (a0 : Option Nat) (a1 : Int32) (h : gk_H) : gk_P gw_V (d + 1) y_M_answerCell b_M_answerCell 2 none [] (f_M_answerCell a0 a1 h) 0 [(0, va_rf a0), (1, .int a1)] [] h := by
  unfold f_M_answerCell
  refine gk_aload_n (pc := 0) 0 d_M_answerCell_0 rfl ?_
  refine gk_bipush (pc := 1) (16 : Int32) d_M_answerCell_1 rfl ?_
  refine gk_aload_n (pc := 3) 0 d_M_answerCell_3 rfl ?_
  refine gk_getR (pc := 4) 7 7 d_M_answerCell_4 rfl (Nat.le_of_ble_eq_true rfl) tw_1652 fun x1 => ?_
  refine gk_iload_n (pc := 7) 1 d_M_answerCell_7 rfl ?_
  refine gk_iald (pc := 8) d_M_answerCell_8 fun x2 => ?_
  refine gk_dconst0 (pc := 9) d_M_answerCell_9 ?_
  refine gk_callV (pc := 10) (d := d) (w' := gv_V) (as := [.int (16 : Int32), .int x2, .double (0x0000000000000000)]) (n := 3) 7 d_M_answerCell_10 rfl rfl rfl rfl (Nat.le_of_ble_eq_true rfl) tw_1733 tw_1735 tw_15 tw_99 cw_M_setSingle hy_M_setSingle (Nat.le_of_ble_eq_true rfl) (p_M_setSingle d a0 (16 : Int32) x2 (0x0000000000000000) h) fun _ h1 => ?_
  refine gk_aload_n (pc := 13) 0 d_M_answerCell_13 rfl ?_
  refine gk_iload_n (pc := 14) 1 d_M_answerCell_14 rfl ?_
  refine gk_sipush (pc := 15) (256 : Int32) d_M_answerCell_15 rfl ?_
  refine gk_callV (pc := 18) (d := d) (w' := gv_V) (as := [.int a1, .int (256 : Int32)]) (n := 2) 7 d_M_answerCell_18 rfl rfl rfl rfl (Nat.le_of_ble_eq_true rfl) tw_1753 tw_1755 tw_16 tw_99 cw_M_copyCell hy_M_copyCell (Nat.le_of_ble_eq_true rfl) (p_M_copyCell d a0 a1 (256 : Int32) h1) fun _ h2 => ?_
  exact gk_vret (pc := 21) rfl d_M_answerCell_21 rfl
theorem p_M_answerCell (d : Nat) (a0 : Option Nat) (a1 : Int32) (h : gk_H) : ∀ r h1, f_M_answerCell a0 a1 h = some (r, h1) → gk_M (d + 1) y_M_answerCell b_M_answerCell 2 none [va_rf a0, .int a1] h (.inl (gv_V r)) h1 :=
  fun r h1 e => gk_M_of2 (by decide +kernel) (by simp [lv_args, gk_cat_rf, gk_catI, gk_catJ, gk_catD, gv_V, gv_I, gv_J, gv_D, gv_R]) (by simp [lg_sl, gk_cat_rf, gk_catI, gk_catJ, gk_catD, gv_V, gv_I, gv_J, gv_D, gv_R]) (w_M_answerCell d a0 a1 h r h1 e)
theorem d_M_kindsOf_0 : decode b_M_kindsOf 0 = .ok (.iload_n 1, 1) := by decide +kernel
theorem d_M_kindsOf_1 : decode b_M_kindsOf 1 = .ok (.bipush 54, 2) := by decide +kernel
theorem d_M_kindsOf_3 : decode b_M_kindsOf 3 = .ok (.if_icmp .ne 60, 3) := by decide +kernel
theorem d_M_kindsOf_6 : decode b_M_kindsOf 6 = .ok (.aload_n 0, 1) := by decide +kernel
theorem d_M_kindsOf_7 : decode b_M_kindsOf 7 = .ok (.getfield 13, 3) := by decide +kernel
theorem d_M_kindsOf_10 : decode b_M_kindsOf 10 = .ok (.iload_n 2, 1) := by decide +kernel
theorem d_M_kindsOf_11 : decode b_M_kindsOf 11 = .ok (.iaload, 1) := by decide +kernel
theorem d_M_kindsOf_12 : decode b_M_kindsOf 12 = .ok (.istore_n 3, 1) := by decide +kernel
theorem d_M_kindsOf_13 : decode b_M_kindsOf 13 = .ok (.aload_n 0, 1) := by decide +kernel
theorem d_M_kindsOf_14 : decode b_M_kindsOf 14 = .ok (.iload_n 3, 1) := by decide +kernel
theorem d_M_kindsOf_15 : decode b_M_kindsOf 15 = .ok (.iconst 2, 1) := by decide +kernel
theorem d_M_kindsOf_16 : decode b_M_kindsOf 16 = .ok (.if_icmp .ge 7, 3) := by decide +kernel
theorem d_M_kindsOf_19 : decode b_M_kindsOf 19 = .ok (.dconst 1, 1) := by decide +kernel
theorem d_M_kindsOf_20 : decode b_M_kindsOf 20 = .ok (.goto 39, 3) := by decide +kernel
theorem d_M_kindsOf_23 : decode b_M_kindsOf 23 = .ok (.iload_n 3, 1) := by decide +kernel
theorem d_M_kindsOf_24 : decode b_M_kindsOf 24 = .ok (.iconst 2, 1) := by decide +kernel
theorem d_M_kindsOf_25 : decode b_M_kindsOf 25 = .ok (.if_icmp .ne 9, 3) := by decide +kernel
theorem d_M_kindsOf_28 : decode b_M_kindsOf 28 = .ok (.ldc2_w 291, 3) := by decide +kernel
theorem d_M_kindsOf_31 : decode b_M_kindsOf 31 = .ok (.goto 28, 3) := by decide +kernel
theorem d_M_kindsOf_34 : decode b_M_kindsOf 34 = .ok (.iload_n 3, 1) := by decide +kernel
theorem d_M_kindsOf_35 : decode b_M_kindsOf 35 = .ok (.iconst 3, 1) := by decide +kernel
theorem d_M_kindsOf_36 : decode b_M_kindsOf 36 = .ok (.if_icmp .ne 9, 3) := by decide +kernel
theorem d_M_kindsOf_39 : decode b_M_kindsOf 39 = .ok (.ldc2_w 374, 3) := by decide +kernel
theorem d_M_kindsOf_42 : decode b_M_kindsOf 42 = .ok (.goto 17, 3) := by decide +kernel
theorem d_M_kindsOf_45 : decode b_M_kindsOf 45 = .ok (.iload_n 3, 1) := by decide +kernel
theorem d_M_kindsOf_46 : decode b_M_kindsOf 46 = .ok (.iconst 4, 1) := by decide +kernel
theorem d_M_kindsOf_47 : decode b_M_kindsOf 47 = .ok (.if_icmp .ne 9, 3) := by decide +kernel
theorem d_M_kindsOf_50 : decode b_M_kindsOf 50 = .ok (.ldc2_w 376, 3) := by decide +kernel
theorem d_M_kindsOf_53 : decode b_M_kindsOf 53 = .ok (.goto 6, 3) := by decide +kernel
theorem d_M_kindsOf_56 : decode b_M_kindsOf 56 = .ok (.ldc2_w 378, 3) := by decide +kernel
theorem d_M_kindsOf_59 : decode b_M_kindsOf 59 = .ok (.invokevirtual 207, 3) := by decide +kernel
theorem d_M_kindsOf_62 : decode b_M_kindsOf 62 = .ok (.return_, 1) := by decide +kernel
theorem d_M_kindsOf_63 : decode b_M_kindsOf 63 = .ok (.iload_n 1, 1) := by decide +kernel
theorem d_M_kindsOf_64 : decode b_M_kindsOf 64 = .ok (.bipush 52, 2) := by decide +kernel
theorem d_M_kindsOf_66 : decode b_M_kindsOf 66 = .ok (.if_icmp .eq 9, 3) := by decide +kernel
theorem d_M_kindsOf_69 : decode b_M_kindsOf 69 = .ok (.iload_n 1, 1) := by decide +kernel
theorem d_M_kindsOf_70 : decode b_M_kindsOf 70 = .ok (.bipush 53, 2) := by decide +kernel
theorem d_M_kindsOf_72 : decode b_M_kindsOf 72 = .ok (.if_icmp .ne 87, 3) := by decide +kernel
theorem d_M_kindsOf_75 : decode b_M_kindsOf 75 = .ok (.aload_n 0, 1) := by decide +kernel
theorem d_M_kindsOf_76 : decode b_M_kindsOf 76 = .ok (.iload_n 2, 1) := by decide +kernel
theorem d_M_kindsOf_77 : decode b_M_kindsOf 77 = .ok (.invokevirtual 183, 3) := by decide +kernel
theorem d_M_kindsOf_80 : decode b_M_kindsOf 80 = .ok (.istore_n 3, 1) := by decide +kernel
theorem d_M_kindsOf_81 : decode b_M_kindsOf 81 = .ok (.aload_n 0, 1) := by decide +kernel
theorem d_M_kindsOf_82 : decode b_M_kindsOf 82 = .ok (.getfield 62, 3) := by decide +kernel
theorem d_M_kindsOf_85 : decode b_M_kindsOf 85 = .ok (.ifCond .le 4, 3) := by decide +kernel
theorem d_M_kindsOf_88 : decode b_M_kindsOf 88 = .ok (.return_, 1) := by decide +kernel
theorem d_M_kindsOf_89 : decode b_M_kindsOf 89 = .ok (.iload_n 1, 1) := by decide +kernel
theorem d_M_kindsOf_90 : decode b_M_kindsOf 90 = .ok (.bipush 52, 2) := by decide +kernel
theorem d_M_kindsOf_92 : decode b_M_kindsOf 92 = .ok (.if_icmp .ne 40, 3) := by decide +kernel
theorem d_M_kindsOf_95 : decode b_M_kindsOf 95 = .ok (.aload_n 0, 1) := by decide +kernel
theorem d_M_kindsOf_96 : decode b_M_kindsOf 96 = .ok (.aload_n 0, 1) := by decide +kernel
theorem d_M_kindsOf_97 : decode b_M_kindsOf 97 = .ok (.getfield 23, 3) := by decide +kernel
theorem d_M_kindsOf_100 : decode b_M_kindsOf 100 = .ok (.iload_n 3, 1) := by decide +kernel
theorem d_M_kindsOf_101 : decode b_M_kindsOf 101 = .ok (.iaload, 1) := by decide +kernel
theorem d_M_kindsOf_102 : decode b_M_kindsOf 102 = .ok (.iconst 1, 1) := by decide +kernel
theorem d_M_kindsOf_103 : decode b_M_kindsOf 103 = .ok (.if_icmp .eq 13, 3) := by decide +kernel
theorem d_M_kindsOf_106 : decode b_M_kindsOf 106 = .ok (.aload_n 0, 1) := by decide +kernel
theorem d_M_kindsOf_107 : decode b_M_kindsOf 107 = .ok (.getfield 23, 3) := by decide +kernel
theorem d_M_kindsOf_110 : decode b_M_kindsOf 110 = .ok (.iload_n 3, 1) := by decide +kernel
theorem d_M_kindsOf_111 : decode b_M_kindsOf 111 = .ok (.iaload, 1) := by decide +kernel
theorem d_M_kindsOf_112 : decode b_M_kindsOf 112 = .ok (.iconst 3, 1) := by decide +kernel
theorem d_M_kindsOf_113 : decode b_M_kindsOf 113 = .ok (.if_icmp .ne 12, 3) := by decide +kernel
theorem d_M_kindsOf_116 : decode b_M_kindsOf 116 = .ok (.aload_n 0, 1) := by decide +kernel
theorem d_M_kindsOf_117 : decode b_M_kindsOf 117 = .ok (.getfield 26, 3) := by decide +kernel
theorem d_M_kindsOf_120 : decode b_M_kindsOf 120 = .ok (.iload_n 3, 1) := by decide +kernel
theorem d_M_kindsOf_121 : decode b_M_kindsOf 121 = .ok (.daload, 1) := by decide +kernel
theorem d_M_kindsOf_122 : decode b_M_kindsOf 122 = .ok (.goto 4, 3) := by decide +kernel
theorem d_M_kindsOf_125 : decode b_M_kindsOf 125 = .ok (.dconst 0, 1) := by decide +kernel
theorem d_M_kindsOf_126 : decode b_M_kindsOf 126 = .ok (.invokevirtual 207, 3) := by decide +kernel
theorem d_M_kindsOf_129 : decode b_M_kindsOf 129 = .ok (.goto 29, 3) := by decide +kernel
theorem d_M_kindsOf_132 : decode b_M_kindsOf 132 = .ok (.aload_n 0, 1) := by decide +kernel
theorem d_M_kindsOf_133 : decode b_M_kindsOf 133 = .ok (.getfield 23, 3) := by decide +kernel
theorem d_M_kindsOf_136 : decode b_M_kindsOf 136 = .ok (.iload_n 3, 1) := by decide +kernel
theorem d_M_kindsOf_137 : decode b_M_kindsOf 137 = .ok (.iaload, 1) := by decide +kernel
theorem d_M_kindsOf_138 : decode b_M_kindsOf 138 = .ok (.iconst 2, 1) := by decide +kernel
theorem d_M_kindsOf_139 : decode b_M_kindsOf 139 = .ok (.if_icmp .ne 11, 3) := by decide +kernel
theorem d_M_kindsOf_142 : decode b_M_kindsOf 142 = .ok (.aload_n 0, 1) := by decide +kernel
theorem d_M_kindsOf_143 : decode b_M_kindsOf 143 = .ok (.iload_n 3, 1) := by decide +kernel
theorem d_M_kindsOf_144 : decode b_M_kindsOf 144 = .ok (.invokevirtual 380, 3) := by decide +kernel
theorem d_M_kindsOf_147 : decode b_M_kindsOf 147 = .ok (.goto 11, 3) := by decide +kernel
theorem d_M_kindsOf_150 : decode b_M_kindsOf 150 = .ok (.aload_n 0, 1) := by decide +kernel
theorem d_M_kindsOf_151 : decode b_M_kindsOf 151 = .ok (.bipush 16, 2) := by decide +kernel
theorem d_M_kindsOf_153 : decode b_M_kindsOf 153 = .ok (.iconst 2, 1) := by decide +kernel
theorem d_M_kindsOf_154 : decode b_M_kindsOf 154 = .ok (.dconst 0, 1) := by decide +kernel
theorem d_M_kindsOf_155 : decode b_M_kindsOf 155 = .ok (.invokevirtual 76, 3) := by decide +kernel
theorem d_M_kindsOf_158 : decode b_M_kindsOf 158 = .ok (.return_, 1) := by decide +kernel
theorem d_M_kindsOf_159 : decode b_M_kindsOf 159 = .ok (.aload_n 0, 1) := by decide +kernel
theorem d_M_kindsOf_160 : decode b_M_kindsOf 160 = .ok (.getfield 17, 3) := by decide +kernel
theorem d_M_kindsOf_163 : decode b_M_kindsOf 163 = .ok (.iload_n 2, 1) := by decide +kernel
theorem d_M_kindsOf_164 : decode b_M_kindsOf 164 = .ok (.iaload, 1) := by decide +kernel
theorem d_M_kindsOf_165 : decode b_M_kindsOf 165 = .ok (.aload_n 0, 1) := by decide +kernel
theorem d_M_kindsOf_166 : decode b_M_kindsOf 166 = .ok (.getfield 20, 3) := by decide +kernel
theorem d_M_kindsOf_169 : decode b_M_kindsOf 169 = .ok (.iload_n 2, 1) := by decide +kernel
theorem d_M_kindsOf_170 : decode b_M_kindsOf 170 = .ok (.iaload, 1) := by decide +kernel
theorem d_M_kindsOf_171 : decode b_M_kindsOf 171 = .ok (.imul, 1) := by decide +kernel
theorem d_M_kindsOf_172 : decode b_M_kindsOf 172 = .ok (.iconst 1, 1) := by decide +kernel
theorem d_M_kindsOf_173 : decode b_M_kindsOf 173 = .ok (.if_icmp .ne 7, 3) := by decide +kernel
theorem d_M_kindsOf_176 : decode b_M_kindsOf 176 = .ok (.iconst 1, 1) := by decide +kernel
theorem d_M_kindsOf_177 : decode b_M_kindsOf 177 = .ok (.goto 4, 3) := by decide +kernel
theorem d_M_kindsOf_180 : decode b_M_kindsOf 180 = .ok (.iconst 0, 1) := by decide +kernel
theorem d_M_kindsOf_181 : decode b_M_kindsOf 181 = .ok (.istore_n 3, 1) := by decide +kernel
theorem d_M_kindsOf_182 : decode b_M_kindsOf 182 = .ok (.iload_n 3, 1) := by decide +kernel
theorem d_M_kindsOf_183 : decode b_M_kindsOf 183 = .ok (.ifCond .eq 15, 3) := by decide +kernel
theorem d_M_kindsOf_186 : decode b_M_kindsOf 186 = .ok (.aload_n 0, 1) := by decide +kernel
theorem d_M_kindsOf_187 : decode b_M_kindsOf 187 = .ok (.getfield 23, 3) := by decide +kernel
theorem d_M_kindsOf_190 : decode b_M_kindsOf 190 = .ok (.bipush 16, 2) := by decide +kernel
theorem d_M_kindsOf_192 : decode b_M_kindsOf 192 = .ok (.iload_n 2, 1) := by decide +kernel
theorem d_M_kindsOf_193 : decode b_M_kindsOf 193 = .ok (.imul, 1) := by decide +kernel
theorem d_M_kindsOf_194 : decode b_M_kindsOf 194 = .ok (.iaload, 1) := by decide +kernel
theorem d_M_kindsOf_195 : decode b_M_kindsOf 195 = .ok (.goto 4, 3) := by decide +kernel
theorem d_M_kindsOf_198 : decode b_M_kindsOf 198 = .ok (.iconst 4, 1) := by decide +kernel
theorem d_M_kindsOf_199 : decode b_M_kindsOf 199 = .ok (.istore 4, 2) := by decide +kernel
theorem d_M_kindsOf_201 : decode b_M_kindsOf 201 = .ok (.iload 4, 2) := by decide +kernel
theorem d_M_kindsOf_203 : decode b_M_kindsOf 203 = .ok (.iconst 4, 1) := by decide +kernel
theorem d_M_kindsOf_204 : decode b_M_kindsOf 204 = .ok (.if_icmp .eq 7, 3) := by decide +kernel
theorem d_M_kindsOf_207 : decode b_M_kindsOf 207 = .ok (.iconst 0, 1) := by decide +kernel
theorem d_M_kindsOf_208 : decode b_M_kindsOf 208 = .ok (.goto 21, 3) := by decide +kernel
theorem d_M_kindsOf_211 : decode b_M_kindsOf 211 = .ok (.iload_n 3, 1) := by decide +kernel
theorem d_M_kindsOf_212 : decode b_M_kindsOf 212 = .ok (.ifCond .eq 16, 3) := by decide +kernel
theorem d_M_kindsOf_215 : decode b_M_kindsOf 215 = .ok (.aload_n 0, 1) := by decide +kernel
theorem d_M_kindsOf_216 : decode b_M_kindsOf 216 = .ok (.getfield 26, 3) := by decide +kernel
theorem d_M_kindsOf_219 : decode b_M_kindsOf 219 = .ok (.bipush 16, 2) := by decide +kernel
theorem d_M_kindsOf_221 : decode b_M_kindsOf 221 = .ok (.iload_n 2, 1) := by decide +kernel
theorem d_M_kindsOf_222 : decode b_M_kindsOf 222 = .ok (.imul, 1) := by decide +kernel
theorem d_M_kindsOf_223 : decode b_M_kindsOf 223 = .ok (.daload, 1) := by decide +kernel
theorem d_M_kindsOf_224 : decode b_M_kindsOf 224 = .ok (.d2i, 1) := by decide +kernel
theorem d_M_kindsOf_225 : decode b_M_kindsOf 225 = .ok (.goto 4, 3) := by decide +kernel
theorem d_M_kindsOf_228 : decode b_M_kindsOf 228 = .ok (.iconst 3, 1) := by decide +kernel
theorem d_M_kindsOf_229 : decode b_M_kindsOf 229 = .ok (.istore 5, 2) := by decide +kernel
theorem d_M_kindsOf_231 : decode b_M_kindsOf 231 = .ok (.iload_n 1, 1) := by decide +kernel
theorem d_M_kindsOf_232 : decode b_M_kindsOf 232 = .ok (.bipush 55, 2) := by decide +kernel
theorem d_M_kindsOf_234 : decode b_M_kindsOf 234 = .ok (.if_icmp .ne 22, 3) := by decide +kernel
theorem d_M_kindsOf_237 : decode b_M_kindsOf 237 = .ok (.iload 5, 2) := by decide +kernel
theorem d_M_kindsOf_239 : decode b_M_kindsOf 239 = .ok (.ifCond .ne 9, 3) := by decide +kernel
theorem d_M_kindsOf_242 : decode b_M_kindsOf 242 = .ok (.aload_n 0, 1) := by decide +kernel
theorem d_M_kindsOf_243 : decode b_M_kindsOf 243 = .ok (.bipush 7, 2) := by decide +kernel
theorem d_M_kindsOf_245 : decode b_M_kindsOf 245 = .ok (.invokevirtual 58, 3) := by decide +kernel
theorem d_M_kindsOf_248 : decode b_M_kindsOf 248 = .ok (.aload_n 0, 1) := by decide +kernel
theorem d_M_kindsOf_249 : decode b_M_kindsOf 249 = .ok (.iload 5, 2) := by decide +kernel
theorem d_M_kindsOf_251 : decode b_M_kindsOf 251 = .ok (.i2d, 1) := by decide +kernel
theorem d_M_kindsOf_252 : decode b_M_kindsOf 252 = .ok (.invokevirtual 207, 3) := by decide +kernel
theorem d_M_kindsOf_255 : decode b_M_kindsOf 255 = .ok (.return_, 1) := by decide +kernel
theorem d_M_kindsOf_256 : decode b_M_kindsOf 256 = .ok (.aload_n 0, 1) := by decide +kernel
theorem d_M_kindsOf_257 : decode b_M_kindsOf 257 = .ok (.iload_n 1, 1) := by decide +kernel
theorem d_M_kindsOf_258 : decode b_M_kindsOf 258 = .ok (.bipush 46, 2) := by decide +kernel
theorem d_M_kindsOf_260 : decode b_M_kindsOf 260 = .ok (.if_icmp .ne 16, 3) := by decide +kernel
theorem d_M_kindsOf_263 : decode b_M_kindsOf 263 = .ok (.iload 4, 2) := by decide +kernel
theorem d_M_kindsOf_265 : decode b_M_kindsOf 265 = .ok (.ifCond .ne 7, 3) := by decide +kernel
theorem d_M_kindsOf_268 : decode b_M_kindsOf 268 = .ok (.iconst 1, 1) := by decide +kernel
theorem d_M_kindsOf_269 : decode b_M_kindsOf 269 = .ok (.goto 99, 3) := by decide +kernel
theorem d_M_kindsOf_272 : decode b_M_kindsOf 272 = .ok (.iconst 0, 1) := by decide +kernel
theorem d_M_kindsOf_273 : decode b_M_kindsOf 273 = .ok (.goto 95, 3) := by decide +kernel
theorem d_M_kindsOf_276 : decode b_M_kindsOf 276 = .ok (.iload_n 1, 1) := by decide +kernel
theorem d_M_kindsOf_277 : decode b_M_kindsOf 277 = .ok (.bipush 47, 2) := by decide +kernel
theorem d_M_kindsOf_279 : decode b_M_kindsOf 279 = .ok (.if_icmp .ne 17, 3) := by decide +kernel
theorem d_M_kindsOf_282 : decode b_M_kindsOf 282 = .ok (.iload 4, 2) := by decide +kernel
theorem d_M_kindsOf_284 : decode b_M_kindsOf 284 = .ok (.iconst 1, 1) := by decide +kernel
theorem d_M_kindsOf_285 : decode b_M_kindsOf 285 = .ok (.if_icmp .ne 7, 3) := by decide +kernel
theorem d_M_kindsOf_288 : decode b_M_kindsOf 288 = .ok (.iconst 1, 1) := by decide +kernel
theorem d_M_kindsOf_289 : decode b_M_kindsOf 289 = .ok (.goto 79, 3) := by decide +kernel
theorem d_M_kindsOf_292 : decode b_M_kindsOf 292 = .ok (.iconst 0, 1) := by decide +kernel
theorem d_M_kindsOf_293 : decode b_M_kindsOf 293 = .ok (.goto 75, 3) := by decide +kernel
theorem d_M_kindsOf_296 : decode b_M_kindsOf 296 = .ok (.iload_n 1, 1) := by decide +kernel
theorem d_M_kindsOf_297 : decode b_M_kindsOf 297 = .ok (.bipush 48, 2) := by decide +kernel
theorem d_M_kindsOf_299 : decode b_M_kindsOf 299 = .ok (.if_icmp .ne 17, 3) := by decide +kernel
theorem d_M_kindsOf_302 : decode b_M_kindsOf 302 = .ok (.iload 4, 2) := by decide +kernel
theorem d_M_kindsOf_304 : decode b_M_kindsOf 304 = .ok (.iconst 2, 1) := by decide +kernel
theorem d_M_kindsOf_305 : decode b_M_kindsOf 305 = .ok (.if_icmp .ne 7, 3) := by decide +kernel
theorem d_M_kindsOf_308 : decode b_M_kindsOf 308 = .ok (.iconst 1, 1) := by decide +kernel
theorem d_M_kindsOf_309 : decode b_M_kindsOf 309 = .ok (.goto 59, 3) := by decide +kernel
theorem d_M_kindsOf_312 : decode b_M_kindsOf 312 = .ok (.iconst 0, 1) := by decide +kernel
theorem d_M_kindsOf_313 : decode b_M_kindsOf 313 = .ok (.goto 55, 3) := by decide +kernel
theorem d_M_kindsOf_316 : decode b_M_kindsOf 316 = .ok (.iload_n 1, 1) := by decide +kernel
theorem d_M_kindsOf_317 : decode b_M_kindsOf 317 = .ok (.bipush 49, 2) := by decide +kernel
theorem d_M_kindsOf_319 : decode b_M_kindsOf 319 = .ok (.if_icmp .ne 17, 3) := by decide +kernel
theorem d_M_kindsOf_322 : decode b_M_kindsOf 322 = .ok (.iload 4, 2) := by decide +kernel
theorem d_M_kindsOf_324 : decode b_M_kindsOf 324 = .ok (.iconst 3, 1) := by decide +kernel
theorem d_M_kindsOf_325 : decode b_M_kindsOf 325 = .ok (.if_icmp .ne 7, 3) := by decide +kernel
theorem d_M_kindsOf_328 : decode b_M_kindsOf 328 = .ok (.iconst 1, 1) := by decide +kernel
theorem d_M_kindsOf_329 : decode b_M_kindsOf 329 = .ok (.goto 39, 3) := by decide +kernel
theorem d_M_kindsOf_332 : decode b_M_kindsOf 332 = .ok (.iconst 0, 1) := by decide +kernel
theorem d_M_kindsOf_333 : decode b_M_kindsOf 333 = .ok (.goto 35, 3) := by decide +kernel
theorem d_M_kindsOf_336 : decode b_M_kindsOf 336 = .ok (.iload_n 1, 1) := by decide +kernel
theorem d_M_kindsOf_337 : decode b_M_kindsOf 337 = .ok (.bipush 50, 2) := by decide +kernel
theorem d_M_kindsOf_339 : decode b_M_kindsOf 339 = .ok (.if_icmp .ne 17, 3) := by decide +kernel
theorem d_M_kindsOf_342 : decode b_M_kindsOf 342 = .ok (.iload 4, 2) := by decide +kernel
theorem d_M_kindsOf_344 : decode b_M_kindsOf 344 = .ok (.iconst 4, 1) := by decide +kernel
theorem d_M_kindsOf_345 : decode b_M_kindsOf 345 = .ok (.if_icmp .ne 7, 3) := by decide +kernel
theorem d_M_kindsOf_348 : decode b_M_kindsOf 348 = .ok (.iconst 1, 1) := by decide +kernel
theorem d_M_kindsOf_349 : decode b_M_kindsOf 349 = .ok (.goto 19, 3) := by decide +kernel
theorem d_M_kindsOf_352 : decode b_M_kindsOf 352 = .ok (.iconst 0, 1) := by decide +kernel
theorem d_M_kindsOf_353 : decode b_M_kindsOf 353 = .ok (.goto 15, 3) := by decide +kernel
theorem d_M_kindsOf_356 : decode b_M_kindsOf 356 = .ok (.iload 5, 2) := by decide +kernel
theorem d_M_kindsOf_358 : decode b_M_kindsOf 358 = .ok (.bipush 7, 2) := by decide +kernel
theorem d_M_kindsOf_360 : decode b_M_kindsOf 360 = .ok (.if_icmp .ne 7, 3) := by decide +kernel
theorem d_M_kindsOf_363 : decode b_M_kindsOf 363 = .ok (.iconst 1, 1) := by decide +kernel
theorem d_M_kindsOf_364 : decode b_M_kindsOf 364 = .ok (.goto 4, 3) := by decide +kernel
theorem d_M_kindsOf_367 : decode b_M_kindsOf 367 = .ok (.iconst 0, 1) := by decide +kernel
theorem d_M_kindsOf_368 : decode b_M_kindsOf 368 = .ok (.invokevirtual 193, 3) := by decide +kernel
theorem d_M_kindsOf_371 : decode b_M_kindsOf 371 = .ok (.return_, 1) := by decide +kernel
theorem p_M_kindsOf_b158 (d : Nat)   (h : gk_H) : gk_P gw_V (d + 3) y_M_kindsOf b_M_kindsOf 6 none [] (f_M_kindsOf_b158   h) 158 [] [] h := by
  unfold f_M_kindsOf_b158
  exact gk_vret (pc := 158) rfl d_M_kindsOf_158 rfl
theorem p_M_kindsOf_b126 (d : Nat)  (s0 : Option Nat) (s1 : UInt64) (h : gk_H) : gk_P gw_V (d + 3) y_M_kindsOf b_M_kindsOf 6 none [] (f_M_kindsOf_b126  s0 s1 h) 126 [] [.double s1, va_rf s0] h := by
  unfold f_M_kindsOf_b126
  refine gk_callV (pc := 126) (d := (d + 2)) (w' := gv_V) (as := [.double s1]) (n := 1) 7 d_M_kindsOf_126 rfl rfl rfl rfl (Nat.le_of_ble_eq_true rfl) tw_1916 tw_1918 tw_38 tw_99 cw_M_answerNumber hy_M_answerNumber (Nat.le_of_ble_eq_true rfl) (p_M_answerNumber (d + 1) s0 s1 h) fun _ h1 => ?_
  refine gk_goto (pc := 129) 158 d_M_kindsOf_129 rfl ?_
  exact p_M_kindsOf_b158 d h1
theorem p_M_kindsOf_b116 (d : Nat)  (v0 : Option Nat) (v3 : Int32) (s0 : Option Nat) (h : gk_H) : gk_P gw_V (d + 3) y_M_kindsOf b_M_kindsOf 6 none [] (f_M_kindsOf_b116  v0 v3 s0 h) 116 [(0, va_rf v0), (3, .int v3)] [va_rf s0] h := by
  unfold f_M_kindsOf_b116
  refine gk_aload_n (pc := 116) 0 d_M_kindsOf_116 rfl ?_
  refine gk_getR (pc := 117) 7 8 d_M_kindsOf_117 rfl (Nat.le_of_ble_eq_true rfl) tw_1653 fun x1 => ?_
  refine gk_iload_n (pc := 120) 1 d_M_kindsOf_120 rfl ?_
  refine gk_dald (pc := 121) d_M_kindsOf_121 fun x2 => ?_
  refine gk_goto (pc := 122) 126 d_M_kindsOf_122 rfl ?_
  refine gk_weak [] (L' := []) rfl ?_
  exact p_M_kindsOf_b126 d s0 x2 h
theorem p_M_kindsOf_b75 (d : Nat)  (v0 : Option Nat) (v1 : Int32) (v2 : Int32) (h : gk_H) : gk_P gw_V (d + 3) y_M_kindsOf b_M_kindsOf 6 none [] (f_M_kindsOf_b75  v0 v1 v2 h) 75 [(0, va_rf v0), (1, .int v1), (2, .int v2)] [] h := by
  unfold f_M_kindsOf_b75
  refine gk_aload_n (pc := 75) 0 d_M_kindsOf_75 rfl ?_
  refine gk_iload_n (pc := 76) 2 d_M_kindsOf_76 rfl ?_
  refine gk_callV (pc := 77) (d := (d + 2)) (w' := gv_I) (as := [.int v2]) (n := 1) 7 d_M_kindsOf_77 rfl rfl rfl rfl (Nat.le_of_ble_eq_true rfl) tw_1797 tw_1799 tw_19 tw_99 cw_M_wantAny hy_M_wantAny (Nat.le_of_ble_eq_true rfl) (p_M_wantAny d v0 v2 h) fun x1 h1 => ?_
  refine gk_istore_n (pc := 80) (L' := [(3, .int x1), (0, va_rf v0), (1, .int v1), (2, .int v2)]) d_M_kindsOf_80 (Nat.le_of_ble_eq_true rfl) rfl ?_
  refine gk_aload_n (pc := 81) 1 d_M_kindsOf_81 rfl ?_
  refine gk_getI (pc := 82) 7 11 d_M_kindsOf_82 rfl (Nat.le_of_ble_eq_true rfl) tw_1656 fun x2 => ?_
  refine gk_if_le (pc := 85) 89 d_M_kindsOf_85 rfl (fun _ => ?_) (fun _ => ?_)
  · refine gk_iload_n (pc := 89) 2 d_M_kindsOf_89 rfl ?_
    refine gk_bipush (pc := 90) (52 : Int32) d_M_kindsOf_90 rfl ?_
    refine gk_icmp_ne (pc := 92) 132 d_M_kindsOf_92 rfl (fun _ => ?_) (fun _ => ?_)
    · refine gk_aload_n (pc := 95) 1 d_M_kindsOf_95 rfl ?_
      refine gk_aload_n (pc := 96) 1 d_M_kindsOf_96 rfl ?_
      refine gk_getR (pc := 97) 7 7 d_M_kindsOf_97 rfl (Nat.le_of_ble_eq_true rfl) tw_1652 fun x3 => ?_
      refine gk_iload_n (pc := 100) 0 d_M_kindsOf_100 rfl ?_
      refine gk_iald (pc := 101) d_M_kindsOf_101 fun x4 => ?_
      refine gk_iconst (pc := 102) (1 : Int32) d_M_kindsOf_102 rfl ?_
      refine gk_icmp_eq (pc := 103) 116 d_M_kindsOf_103 rfl (fun _ => ?_) (fun _ => ?_)
      · refine gk_weak [1, 0] (L' := [(0, va_rf v0), (3, .int x1)]) rfl ?_
        exact p_M_kindsOf_b116 d v0 x1 v0 h1
      · refine gk_aload_n (pc := 106) 1 d_M_kindsOf_106 rfl ?_
        refine gk_getR (pc := 107) 7 7 d_M_kindsOf_107 rfl (Nat.le_of_ble_eq_true rfl) tw_1652 fun x5 => ?_
        refine gk_iload_n (pc := 110) 0 d_M_kindsOf_110 rfl ?_
        refine gk_iald (pc := 111) d_M_kindsOf_111 fun x6 => ?_
        refine gk_iconst (pc := 112) (3 : Int32) d_M_kindsOf_112 rfl ?_
        refine gk_icmp_ne (pc := 113) 125 d_M_kindsOf_113 rfl (fun _ => ?_) (fun _ => ?_)
        · refine gk_weak [1, 0] (L' := [(0, va_rf v0), (3, .int x1)]) rfl ?_
          exact p_M_kindsOf_b116 d v0 x1 v0 h1
        · refine gk_dconst0 (pc := 125) d_M_kindsOf_125 ?_
          refine gk_weak [] (L' := []) rfl ?_
          exact p_M_kindsOf_b126 d v0 (0x0000000000000000) h1
    · refine gk_aload_n (pc := 132) 1 d_M_kindsOf_132 rfl ?_
      refine gk_getR (pc := 133) 7 7 d_M_kindsOf_133 rfl (Nat.le_of_ble_eq_true rfl) tw_1652 fun x7 => ?_
      refine gk_iload_n (pc := 136) 0 d_M_kindsOf_136 rfl ?_
      refine gk_iald (pc := 137) d_M_kindsOf_137 fun x8 => ?_
      refine gk_iconst (pc := 138) (2 : Int32) d_M_kindsOf_138 rfl ?_
      refine gk_icmp_ne (pc := 139) 150 d_M_kindsOf_139 rfl (fun _ => ?_) (fun _ => ?_)
      · refine gk_aload_n (pc := 142) 1 d_M_kindsOf_142 rfl ?_
        refine gk_iload_n (pc := 143) 0 d_M_kindsOf_143 rfl ?_
        refine gk_callV (pc := 144) (d := (d + 2)) (w' := gv_V) (as := [.int x1]) (n := 1) 7 d_M_kindsOf_144 rfl rfl rfl rfl (Nat.le_of_ble_eq_true rfl) tw_2070 tw_2072 tw_69 tw_99 cw_M_answerCell hy_M_answerCell (Nat.le_of_ble_eq_true rfl) (p_M_answerCell (d + 1) v0 x1 h1) fun _ h2 => ?_
        refine gk_goto (pc := 147) 158 d_M_kindsOf_147 rfl ?_
        refine gk_weak [] (L' := []) rfl ?_
        exact p_M_kindsOf_b158 d h2
      · refine gk_aload_n (pc := 150) 1 d_M_kindsOf_150 rfl ?_
        refine gk_bipush (pc := 151) (16 : Int32) d_M_kindsOf_151 rfl ?_
        refine gk_iconst (pc := 153) (2 : Int32) d_M_kindsOf_153 rfl ?_
        refine gk_dconst0 (pc := 154) d_M_kindsOf_154 ?_
        refine gk_callV (pc := 155) (d := (d + 2)) (w' := gv_V) (as := [.int (16 : Int32), .int (2 : Int32), .double (0x0000000000000000)]) (n := 3) 7 d_M_kindsOf_155 rfl rfl rfl rfl (Nat.le_of_ble_eq_true rfl) tw_1733 tw_1735 tw_15 tw_99 cw_M_setSingle hy_M_setSingle (Nat.le_of_ble_eq_true rfl) (p_M_setSingle (d + 2) v0 (16 : Int32) (2 : Int32) (0x0000000000000000) h1) fun _ h3 => ?_
        refine gk_weak [] (L' := []) rfl ?_
        exact p_M_kindsOf_b158 d h3
  · exact gk_vret (pc := 88) rfl d_M_kindsOf_88 rfl
theorem p_M_kindsOf_b368 (d : Nat)  (s0 : Option Nat) (s1 : Int32) (h : gk_H) : gk_P gw_V (d + 3) y_M_kindsOf b_M_kindsOf 6 none [] (f_M_kindsOf_b368  s0 s1 h) 368 [] [.int s1, va_rf s0] h := by
  unfold f_M_kindsOf_b368
  refine gk_callV (pc := 368) (d := (d + 2)) (w' := gv_V) (as := [.int s1]) (n := 1) 7 d_M_kindsOf_368 rfl rfl rfl rfl (Nat.le_of_ble_eq_true rfl) tw_1826 tw_1828 tw_24 tw_99 cw_M_answerTruth hy_M_answerTruth (Nat.le_of_ble_eq_true rfl) (p_M_answerTruth (d + 1) s0 s1 h) fun _ h1 => ?_
  exact gk_vret (pc := 371) rfl d_M_kindsOf_371 rfl
theorem p_M_kindsOf_b248 (d : Nat)  (v0 : Option Nat) (v5 : Int32) (h : gk_H) : gk_P gw_V (d + 3) y_M_kindsOf b_M_kindsOf 6 none [] (f_M_kindsOf_b248  v0 v5 h) 248 [(0, va_rf v0), (5, .int v5)] [] h := by
  unfold f_M_kindsOf_b248
  refine gk_aload_n (pc := 248) 0 d_M_kindsOf_248 rfl ?_
  refine gk_iload (pc := 249) 1 d_M_kindsOf_249 rfl ?_
  refine gk_i2d (pc := 251) d_M_kindsOf_251 ?_
  refine gk_callV (pc := 252) (d := (d + 2)) (w' := gv_V) (as := [.double (FP.i2d v5)]) (n := 1) 7 d_M_kindsOf_252 rfl rfl rfl rfl (Nat.le_of_ble_eq_true rfl) tw_1916 tw_1918 tw_38 tw_99 cw_M_answerNumber hy_M_answerNumber (Nat.le_of_ble_eq_true rfl) (p_M_answerNumber (d + 1) v0 (FP.i2d v5) h) fun _ h1 => ?_
  exact gk_vret (pc := 255) rfl d_M_kindsOf_255 rfl
theorem p_M_kindsOf_b229 (d : Nat)  (v0 : Option Nat) (v1 : Int32) (v4 : Int32) (s0 : Int32) (h : gk_H) : gk_P gw_V (d + 3) y_M_kindsOf b_M_kindsOf 6 none [] (f_M_kindsOf_b229  v0 v1 v4 s0 h) 229 [(0, va_rf v0), (1, .int v1), (4, .int v4)] [.int s0] h := by
  unfold f_M_kindsOf_b229
  refine gk_istore (pc := 229) (L' := [(5, .int s0), (0, va_rf v0), (1, .int v1), (4, .int v4)]) d_M_kindsOf_229 (Nat.le_of_ble_eq_true rfl) rfl ?_
  refine gk_iload_n (pc := 231) 2 d_M_kindsOf_231 rfl ?_
  refine gk_bipush (pc := 232) (55 : Int32) d_M_kindsOf_232 rfl ?_
  refine gk_icmp_ne (pc := 234) 256 d_M_kindsOf_234 rfl (fun _ => ?_) (fun _ => ?_)
  · refine gk_iload (pc := 237) 0 d_M_kindsOf_237 rfl ?_
    refine gk_if_ne (pc := 239) 248 d_M_kindsOf_239 rfl (fun _ => ?_) (fun _ => ?_)
    · refine gk_aload_n (pc := 242) 1 d_M_kindsOf_242 rfl ?_
      refine gk_bipush (pc := 243) (7 : Int32) d_M_kindsOf_243 rfl ?_
      refine gk_callV (pc := 245) (d := (d + 2)) (w' := gv_V) (as := [.int (7 : Int32)]) (n := 1) 7 d_M_kindsOf_245 rfl rfl rfl rfl (Nat.le_of_ble_eq_true rfl) tw_1805 tw_1807 tw_21 tw_99 cw_M_fail hy_M_fail (Nat.le_of_ble_eq_true rfl) (p_M_fail (d + 2) v0 (7 : Int32) h) fun _ h1 => ?_
      refine gk_weak [1, 0] (L' := [(0, va_rf v0), (5, .int s0)]) rfl ?_
      exact p_M_kindsOf_b248 d v0 s0 h1
    · refine gk_weak [1, 0] (L' := [(0, va_rf v0), (5, .int s0)]) rfl ?_
      exact p_M_kindsOf_b248 d v0 s0 h
  · refine gk_aload_n (pc := 256) 1 d_M_kindsOf_256 rfl ?_
    refine gk_iload_n (pc := 257) 2 d_M_kindsOf_257 rfl ?_
    refine gk_bipush (pc := 258) (46 : Int32) d_M_kindsOf_258 rfl ?_
    refine gk_icmp_ne (pc := 260) 276 d_M_kindsOf_260 rfl (fun _ => ?_) (fun _ => ?_)
    · refine gk_iload (pc := 263) 3 d_M_kindsOf_263 rfl ?_
      refine gk_if_ne (pc := 265) 272 d_M_kindsOf_265 rfl (fun _ => ?_) (fun _ => ?_)
      · refine gk_iconst (pc := 268) (1 : Int32) d_M_kindsOf_268 rfl ?_
        refine gk_goto (pc := 269) 368 d_M_kindsOf_269 rfl ?_
        refine gk_weak [] (L' := []) rfl ?_
        exact p_M_kindsOf_b368 d v0 (1 : Int32) h
      · refine gk_iconst (pc := 272) (0 : Int32) d_M_kindsOf_272 rfl ?_
        refine gk_goto (pc := 273) 368 d_M_kindsOf_273 rfl ?_
        refine gk_weak [] (L' := []) rfl ?_
        exact p_M_kindsOf_b368 d v0 (0 : Int32) h
    · refine gk_iload_n (pc := 276) 2 d_M_kindsOf_276 rfl ?_
      refine gk_bipush (pc := 277) (47 : Int32) d_M_kindsOf_277 rfl ?_
      refine gk_icmp_ne (pc := 279) 296 d_M_kindsOf_279 rfl (fun _ => ?_) (fun _ => ?_)
      · refine gk_iload (pc := 282) 3 d_M_kindsOf_282 rfl ?_
        refine gk_iconst (pc := 284) (1 : Int32) d_M_kindsOf_284 rfl ?_
        refine gk_icmp_ne (pc := 285) 292 d_M_kindsOf_285 rfl (fun _ => ?_) (fun _ => ?_)
        · refine gk_iconst (pc := 288) (1 : Int32) d_M_kindsOf_288 rfl ?_
          refine gk_goto (pc := 289) 368 d_M_kindsOf_289 rfl ?_
          refine gk_weak [] (L' := []) rfl ?_
          exact p_M_kindsOf_b368 d v0 (1 : Int32) h
        · refine gk_iconst (pc := 292) (0 : Int32) d_M_kindsOf_292 rfl ?_
          refine gk_goto (pc := 293) 368 d_M_kindsOf_293 rfl ?_
          refine gk_weak [] (L' := []) rfl ?_
          exact p_M_kindsOf_b368 d v0 (0 : Int32) h
      · refine gk_iload_n (pc := 296) 2 d_M_kindsOf_296 rfl ?_
        refine gk_bipush (pc := 297) (48 : Int32) d_M_kindsOf_297 rfl ?_
        refine gk_icmp_ne (pc := 299) 316 d_M_kindsOf_299 rfl (fun _ => ?_) (fun _ => ?_)
        · refine gk_iload (pc := 302) 3 d_M_kindsOf_302 rfl ?_
          refine gk_iconst (pc := 304) (2 : Int32) d_M_kindsOf_304 rfl ?_
          refine gk_icmp_ne (pc := 305) 312 d_M_kindsOf_305 rfl (fun _ => ?_) (fun _ => ?_)
          · refine gk_iconst (pc := 308) (1 : Int32) d_M_kindsOf_308 rfl ?_
            refine gk_goto (pc := 309) 368 d_M_kindsOf_309 rfl ?_
            refine gk_weak [] (L' := []) rfl ?_
            exact p_M_kindsOf_b368 d v0 (1 : Int32) h
          · refine gk_iconst (pc := 312) (0 : Int32) d_M_kindsOf_312 rfl ?_
            refine gk_goto (pc := 313) 368 d_M_kindsOf_313 rfl ?_
            refine gk_weak [] (L' := []) rfl ?_
            exact p_M_kindsOf_b368 d v0 (0 : Int32) h
        · refine gk_iload_n (pc := 316) 2 d_M_kindsOf_316 rfl ?_
          refine gk_bipush (pc := 317) (49 : Int32) d_M_kindsOf_317 rfl ?_
          refine gk_icmp_ne (pc := 319) 336 d_M_kindsOf_319 rfl (fun _ => ?_) (fun _ => ?_)
          · refine gk_iload (pc := 322) 3 d_M_kindsOf_322 rfl ?_
            refine gk_iconst (pc := 324) (3 : Int32) d_M_kindsOf_324 rfl ?_
            refine gk_icmp_ne (pc := 325) 332 d_M_kindsOf_325 rfl (fun _ => ?_) (fun _ => ?_)
            · refine gk_iconst (pc := 328) (1 : Int32) d_M_kindsOf_328 rfl ?_
              refine gk_goto (pc := 329) 368 d_M_kindsOf_329 rfl ?_
              refine gk_weak [] (L' := []) rfl ?_
              exact p_M_kindsOf_b368 d v0 (1 : Int32) h
            · refine gk_iconst (pc := 332) (0 : Int32) d_M_kindsOf_332 rfl ?_
              refine gk_goto (pc := 333) 368 d_M_kindsOf_333 rfl ?_
              refine gk_weak [] (L' := []) rfl ?_
              exact p_M_kindsOf_b368 d v0 (0 : Int32) h
          · refine gk_iload_n (pc := 336) 2 d_M_kindsOf_336 rfl ?_
            refine gk_bipush (pc := 337) (50 : Int32) d_M_kindsOf_337 rfl ?_
            refine gk_icmp_ne (pc := 339) 356 d_M_kindsOf_339 rfl (fun _ => ?_) (fun _ => ?_)
            · refine gk_iload (pc := 342) 3 d_M_kindsOf_342 rfl ?_
              refine gk_iconst (pc := 344) (4 : Int32) d_M_kindsOf_344 rfl ?_
              refine gk_icmp_ne (pc := 345) 352 d_M_kindsOf_345 rfl (fun _ => ?_) (fun _ => ?_)
              · refine gk_iconst (pc := 348) (1 : Int32) d_M_kindsOf_348 rfl ?_
                refine gk_goto (pc := 349) 368 d_M_kindsOf_349 rfl ?_
                refine gk_weak [] (L' := []) rfl ?_
                exact p_M_kindsOf_b368 d v0 (1 : Int32) h
              · refine gk_iconst (pc := 352) (0 : Int32) d_M_kindsOf_352 rfl ?_
                refine gk_goto (pc := 353) 368 d_M_kindsOf_353 rfl ?_
                refine gk_weak [] (L' := []) rfl ?_
                exact p_M_kindsOf_b368 d v0 (0 : Int32) h
            · refine gk_iload (pc := 356) 0 d_M_kindsOf_356 rfl ?_
              refine gk_bipush (pc := 358) (7 : Int32) d_M_kindsOf_358 rfl ?_
              refine gk_icmp_ne (pc := 360) 367 d_M_kindsOf_360 rfl (fun _ => ?_) (fun _ => ?_)
              · refine gk_iconst (pc := 363) (1 : Int32) d_M_kindsOf_363 rfl ?_
                refine gk_goto (pc := 364) 368 d_M_kindsOf_364 rfl ?_
                refine gk_weak [] (L' := []) rfl ?_
                exact p_M_kindsOf_b368 d v0 (1 : Int32) h
              · refine gk_iconst (pc := 367) (0 : Int32) d_M_kindsOf_367 rfl ?_
                refine gk_weak [] (L' := []) rfl ?_
                exact p_M_kindsOf_b368 d v0 (0 : Int32) h
theorem p_M_kindsOf_b199 (d : Nat)  (v0 : Option Nat) (v1 : Int32) (v2 : Int32) (v3 : Int32) (s0 : Int32) (h : gk_H) : gk_P gw_V (d + 3) y_M_kindsOf b_M_kindsOf 6 none [] (f_M_kindsOf_b199  v0 v1 v2 v3 s0 h) 199 [(0, va_rf v0), (1, .int v1), (2, .int v2), (3, .int v3)] [.int s0] h := by
  unfold f_M_kindsOf_b199
  refine gk_istore (pc := 199) (L' := [(4, .int s0), (0, va_rf v0), (1, .int v1), (2, .int v2), (3, .int v3)]) d_M_kindsOf_199 (Nat.le_of_ble_eq_true rfl) rfl ?_
  refine gk_iload (pc := 201) 0 d_M_kindsOf_201 rfl ?_
  refine gk_iconst (pc := 203) (4 : Int32) d_M_kindsOf_203 rfl ?_
  refine gk_icmp_eq (pc := 204) 211 d_M_kindsOf_204 rfl (fun _ => ?_) (fun _ => ?_)
  · refine gk_iload_n (pc := 211) 4 d_M_kindsOf_211 rfl ?_
    refine gk_if_eq (pc := 212) 228 d_M_kindsOf_212 rfl (fun _ => ?_) (fun _ => ?_)
    · refine gk_iconst (pc := 228) (3 : Int32) d_M_kindsOf_228 rfl ?_
      refine gk_weak [1, 2, 0] (L' := [(0, va_rf v0), (1, .int v1), (4, .int s0)]) rfl ?_
      exact p_M_kindsOf_b229 d v0 v1 s0 (3 : Int32) h
    · refine gk_aload_n (pc := 215) 1 d_M_kindsOf_215 rfl ?_
      refine gk_getR (pc := 216) 7 8 d_M_kindsOf_216 rfl (Nat.le_of_ble_eq_true rfl) tw_1653 fun x1 => ?_
      refine gk_bipush (pc := 219) (16 : Int32) d_M_kindsOf_219 rfl ?_
      refine gk_iload_n (pc := 221) 3 d_M_kindsOf_221 rfl ?_
      refine gk_imul (pc := 222) d_M_kindsOf_222 ?_
      refine gk_dald (pc := 223) d_M_kindsOf_223 fun x2 => ?_
      refine gk_d2i (pc := 224) d_M_kindsOf_224 ?_
      refine gk_goto (pc := 225) 229 d_M_kindsOf_225 rfl ?_
      refine gk_weak [1, 2, 0] (L' := [(0, va_rf v0), (1, .int v1), (4, .int s0)]) rfl ?_
      exact p_M_kindsOf_b229 d v0 v1 s0 (FP.d2i x2) h
  · refine gk_iconst (pc := 207) (0 : Int32) d_M_kindsOf_207 rfl ?_
    refine gk_goto (pc := 208) 229 d_M_kindsOf_208 rfl ?_
    refine gk_weak [1, 2, 0] (L' := [(0, va_rf v0), (1, .int v1), (4, .int s0)]) rfl ?_
    exact p_M_kindsOf_b229 d v0 v1 s0 (0 : Int32) h
theorem p_M_kindsOf_b181 (d : Nat)  (v0 : Option Nat) (v1 : Int32) (v2 : Int32) (s0 : Int32) (h : gk_H) : gk_P gw_V (d + 3) y_M_kindsOf b_M_kindsOf 6 none [] (f_M_kindsOf_b181  v0 v1 v2 s0 h) 181 [(0, va_rf v0), (1, .int v1), (2, .int v2)] [.int s0] h := by
  unfold f_M_kindsOf_b181
  refine gk_istore_n (pc := 181) (L' := [(3, .int s0), (0, va_rf v0), (1, .int v1), (2, .int v2)]) d_M_kindsOf_181 (Nat.le_of_ble_eq_true rfl) rfl ?_
  refine gk_iload_n (pc := 182) 0 d_M_kindsOf_182 rfl ?_
  refine gk_if_eq (pc := 183) 198 d_M_kindsOf_183 rfl (fun _ => ?_) (fun _ => ?_)
  · refine gk_iconst (pc := 198) (4 : Int32) d_M_kindsOf_198 rfl ?_
    refine gk_weak [1, 2, 3, 0] (L' := [(0, va_rf v0), (1, .int v1), (2, .int v2), (3, .int s0)]) rfl ?_
    exact p_M_kindsOf_b199 d v0 v1 v2 s0 (4 : Int32) h
  · refine gk_aload_n (pc := 186) 1 d_M_kindsOf_186 rfl ?_
    refine gk_getR (pc := 187) 7 7 d_M_kindsOf_187 rfl (Nat.le_of_ble_eq_true rfl) tw_1652 fun x1 => ?_
    refine gk_bipush (pc := 190) (16 : Int32) d_M_kindsOf_190 rfl ?_
    refine gk_iload_n (pc := 192) 3 d_M_kindsOf_192 rfl ?_
    refine gk_imul (pc := 193) d_M_kindsOf_193 ?_
    refine gk_iald (pc := 194) d_M_kindsOf_194 fun x2 => ?_
    refine gk_goto (pc := 195) 199 d_M_kindsOf_195 rfl ?_
    refine gk_weak [1, 2, 3, 0] (L' := [(0, va_rf v0), (1, .int v1), (2, .int v2), (3, .int s0)]) rfl ?_
    exact p_M_kindsOf_b199 d v0 v1 v2 s0 x2 h
theorem p_M_kindsOf_b59 (d : Nat)  (s0 : Option Nat) (s1 : UInt64) (h : gk_H) : gk_P gw_V (d + 3) y_M_kindsOf b_M_kindsOf 6 none [] (f_M_kindsOf_b59  s0 s1 h) 59 [] [.double s1, va_rf s0] h := by
  unfold f_M_kindsOf_b59
  refine gk_callV (pc := 59) (d := (d + 2)) (w' := gv_V) (as := [.double s1]) (n := 1) 7 d_M_kindsOf_59 rfl rfl rfl rfl (Nat.le_of_ble_eq_true rfl) tw_1916 tw_1918 tw_38 tw_99 cw_M_answerNumber hy_M_answerNumber (Nat.le_of_ble_eq_true rfl) (p_M_answerNumber (d + 1) s0 s1 h) fun _ h1 => ?_
  exact gk_vret (pc := 62) rfl d_M_kindsOf_62 rfl
theorem w_M_kindsOf (d : Nat) (a0 : Option Nat) (a1 : Int32) (a2 : Int32) (h : gk_H) : gk_P gw_V (d + 3) y_M_kindsOf b_M_kindsOf 6 none [] (f_M_kindsOf a0 a1 a2 h) 0 [(0, va_rf a0), (1, .int a1), (2, .int a2)] [] h := by
  unfold f_M_kindsOf
  refine gk_iload_n (pc := 0) 1 d_M_kindsOf_0 rfl ?_
  refine gk_bipush (pc := 1) (54 : Int32) d_M_kindsOf_1 rfl ?_
  refine gk_icmp_ne (pc := 3) 63 d_M_kindsOf_3 rfl (fun _ => ?_) (fun _ => ?_)
  · refine gk_aload_n (pc := 6) 0 d_M_kindsOf_6 rfl ?_
    refine gk_getR (pc := 7) 7 4 d_M_kindsOf_7 rfl (Nat.le_of_ble_eq_true rfl) tw_1649 fun x1 => ?_
    refine gk_iload_n (pc := 10) 2 d_M_kindsOf_10 rfl ?_
    refine gk_iald (pc := 11) d_M_kindsOf_11 fun x2 => ?_
    refine gk_istore_n (pc := 12) (L' := [(3, .int x2), (0, va_rf a0), (1, .int a1), (2, .int a2)]) d_M_kindsOf_12 (Nat.le_of_ble_eq_true rfl) rfl ?_
    refine gk_aload_n (pc := 13) 1 d_M_kindsOf_13 rfl ?_
    refine gk_iload_n (pc := 14) 0 d_M_kindsOf_14 rfl ?_
    refine gk_iconst (pc := 15) (2 : Int32) d_M_kindsOf_15 rfl ?_
    refine gk_icmp_ge (pc := 16) 23 d_M_kindsOf_16 rfl (fun _ => ?_) (fun _ => ?_)
    · refine gk_iload_n (pc := 23) 0 d_M_kindsOf_23 rfl ?_
      refine gk_iconst (pc := 24) (2 : Int32) d_M_kindsOf_24 rfl ?_
      refine gk_icmp_ne (pc := 25) 34 d_M_kindsOf_25 rfl (fun _ => ?_) (fun _ => ?_)
      · refine gk_ldc2d (pc := 28) tw_1978 d_M_kindsOf_28 ?_
        refine gk_goto (pc := 31) 59 d_M_kindsOf_31 rfl ?_
        refine gk_weak [] (L' := []) rfl ?_
        exact p_M_kindsOf_b59 d a0 (0x4000000000000000) h
      · refine gk_iload_n (pc := 34) 0 d_M_kindsOf_34 rfl ?_
        refine gk_iconst (pc := 35) (3 : Int32) d_M_kindsOf_35 rfl ?_
        refine gk_icmp_ne (pc := 36) 45 d_M_kindsOf_36 rfl (fun _ => ?_) (fun _ => ?_)
        · refine gk_ldc2d (pc := 39) tw_2067 d_M_kindsOf_39 ?_
          refine gk_goto (pc := 42) 59 d_M_kindsOf_42 rfl ?_
          refine gk_weak [] (L' := []) rfl ?_
          exact p_M_kindsOf_b59 d a0 (0x4010000000000000) h
        · refine gk_iload_n (pc := 45) 0 d_M_kindsOf_45 rfl ?_
          refine gk_iconst (pc := 46) (4 : Int32) d_M_kindsOf_46 rfl ?_
          refine gk_icmp_ne (pc := 47) 56 d_M_kindsOf_47 rfl (fun _ => ?_) (fun _ => ?_)
          · refine gk_ldc2d (pc := 50) tw_2068 d_M_kindsOf_50 ?_
            refine gk_goto (pc := 53) 59 d_M_kindsOf_53 rfl ?_
            refine gk_weak [] (L' := []) rfl ?_
            exact p_M_kindsOf_b59 d a0 (0x4030000000000000) h
          · refine gk_ldc2d (pc := 56) tw_2069 d_M_kindsOf_56 ?_
            refine gk_weak [] (L' := []) rfl ?_
            exact p_M_kindsOf_b59 d a0 (0x4050000000000000) h
    · refine gk_dconst1 (pc := 19) d_M_kindsOf_19 ?_
      refine gk_goto (pc := 20) 59 d_M_kindsOf_20 rfl ?_
      refine gk_weak [] (L' := []) rfl ?_
      exact p_M_kindsOf_b59 d a0 (0x3ff0000000000000) h
  · refine gk_iload_n (pc := 63) 1 d_M_kindsOf_63 rfl ?_
    refine gk_bipush (pc := 64) (52 : Int32) d_M_kindsOf_64 rfl ?_
    refine gk_icmp_eq (pc := 66) 75 d_M_kindsOf_66 rfl (fun _ => ?_) (fun _ => ?_)
    · exact p_M_kindsOf_b75 d a0 a1 a2 h
    · refine gk_iload_n (pc := 69) 1 d_M_kindsOf_69 rfl ?_
      refine gk_bipush (pc := 70) (53 : Int32) d_M_kindsOf_70 rfl ?_
      refine gk_icmp_ne (pc := 72) 159 d_M_kindsOf_72 rfl (fun _ => ?_) (fun _ => ?_)
      · exact p_M_kindsOf_b75 d a0 a1 a2 h
      · refine gk_aload_n (pc := 159) 0 d_M_kindsOf_159 rfl ?_
        refine gk_getR (pc := 160) 7 5 d_M_kindsOf_160 rfl (Nat.le_of_ble_eq_true rfl) tw_1650 fun x3 => ?_
        refine gk_iload_n (pc := 163) 2 d_M_kindsOf_163 rfl ?_
        refine gk_iald (pc := 164) d_M_kindsOf_164 fun x4 => ?_
        refine gk_aload_n (pc := 165) 0 d_M_kindsOf_165 rfl ?_
        refine gk_getR (pc := 166) 7 6 d_M_kindsOf_166 rfl (Nat.le_of_ble_eq_true rfl) tw_1651 fun x5 => ?_
        refine gk_iload_n (pc := 169) 2 d_M_kindsOf_169 rfl ?_
        refine gk_iald (pc := 170) d_M_kindsOf_170 fun x6 => ?_
        refine gk_imul (pc := 171) d_M_kindsOf_171 ?_
        refine gk_iconst (pc := 172) (1 : Int32) d_M_kindsOf_172 rfl ?_
        refine gk_icmp_ne (pc := 173) 180 d_M_kindsOf_173 rfl (fun _ => ?_) (fun _ => ?_)
        · refine gk_iconst (pc := 176) (1 : Int32) d_M_kindsOf_176 rfl ?_
          refine gk_goto (pc := 177) 181 d_M_kindsOf_177 rfl ?_
          exact p_M_kindsOf_b181 d a0 a1 a2 (1 : Int32) h
        · refine gk_iconst (pc := 180) (0 : Int32) d_M_kindsOf_180 rfl ?_
          exact p_M_kindsOf_b181 d a0 a1 a2 (0 : Int32) h
theorem p_M_kindsOf (d : Nat) (a0 : Option Nat) (a1 : Int32) (a2 : Int32) (h : gk_H) : ∀ r h1, f_M_kindsOf a0 a1 a2 h = some (r, h1) → gk_M (d + 3) y_M_kindsOf b_M_kindsOf 6 none [va_rf a0, .int a1, .int a2] h (.inl (gv_V r)) h1 :=
  fun r h1 e => gk_M_of2 (by decide +kernel) (by simp [lv_args, gk_cat_rf, gk_catI, gk_catJ, gk_catD, gv_V, gv_I, gv_J, gv_D, gv_R]) (by simp [lg_sl, gk_cat_rf, gk_catI, gk_catJ, gk_catD, gv_V, gv_I, gv_J, gv_D, gv_R]) (w_M_kindsOf d a0 a1 a2 h r h1 e)
theorem d_M_isAt_0 : decode b_M_isAt 0 = .ok (.iload_n 2, 1) := by decide +kernel
theorem d_M_isAt_1 : decode b_M_isAt 1 = .ok (.aload_n 0, 1) := by decide +kernel
theorem d_M_isAt_2 : decode b_M_isAt 2 = .ok (.getfield 40, 3) := by decide +kernel
theorem d_M_isAt_5 : decode b_M_isAt 5 = .ok (.iload_n 3, 1) := by decide +kernel
theorem d_M_isAt_6 : decode b_M_isAt 6 = .ok (.iaload, 1) := by decide +kernel
theorem d_M_isAt_7 : decode b_M_isAt 7 = .ok (.iadd, 1) := by decide +kernel
theorem d_M_isAt_8 : decode b_M_isAt 8 = .ok (.aload_n 0, 1) := by decide +kernel
theorem d_M_isAt_9 : decode b_M_isAt 9 = .ok (.getfield 40, 3) := by decide +kernel
theorem d_M_isAt_12 : decode b_M_isAt 12 = .ok (.iload_n 1, 1) := by decide +kernel
theorem d_M_isAt_13 : decode b_M_isAt 13 = .ok (.iaload, 1) := by decide +kernel
theorem d_M_isAt_14 : decode b_M_isAt 14 = .ok (.if_icmp .gt 7, 3) := by decide +kernel
theorem d_M_isAt_17 : decode b_M_isAt 17 = .ok (.iconst 1, 1) := by decide +kernel
theorem d_M_isAt_18 : decode b_M_isAt 18 = .ok (.goto 4, 3) := by decide +kernel
theorem d_M_isAt_21 : decode b_M_isAt 21 = .ok (.iconst 0, 1) := by decide +kernel
theorem d_M_isAt_22 : decode b_M_isAt 22 = .ok (.istore 4, 2) := by decide +kernel
theorem d_M_isAt_24 : decode b_M_isAt 24 = .ok (.iconst 0, 1) := by decide +kernel
theorem d_M_isAt_25 : decode b_M_isAt 25 = .ok (.istore 5, 2) := by decide +kernel
theorem d_M_isAt_27 : decode b_M_isAt 27 = .ok (.iload 5, 2) := by decide +kernel
theorem d_M_isAt_29 : decode b_M_isAt 29 = .ok (.aload_n 0, 1) := by decide +kernel
theorem d_M_isAt_30 : decode b_M_isAt 30 = .ok (.getfield 40, 3) := by decide +kernel
theorem d_M_isAt_33 : decode b_M_isAt 33 = .ok (.iload_n 3, 1) := by decide +kernel
theorem d_M_isAt_34 : decode b_M_isAt 34 = .ok (.iaload, 1) := by decide +kernel
theorem d_M_isAt_35 : decode b_M_isAt 35 = .ok (.if_icmp .ge 52, 3) := by decide +kernel
theorem d_M_isAt_38 : decode b_M_isAt 38 = .ok (.iload 4, 2) := by decide +kernel
theorem d_M_isAt_40 : decode b_M_isAt 40 = .ok (.ifCond .eq 47, 3) := by decide +kernel
theorem d_M_isAt_43 : decode b_M_isAt 43 = .ok (.aload_n 0, 1) := by decide +kernel
theorem d_M_isAt_44 : decode b_M_isAt 44 = .ok (.getfield 43, 3) := by decide +kernel
theorem d_M_isAt_47 : decode b_M_isAt 47 = .ok (.sipush 256, 3) := by decide +kernel
theorem d_M_isAt_50 : decode b_M_isAt 50 = .ok (.iload_n 1, 1) := by decide +kernel
theorem d_M_isAt_51 : decode b_M_isAt 51 = .ok (.imul, 1) := by decide +kernel
theorem d_M_isAt_52 : decode b_M_isAt 52 = .ok (.iload_n 2, 1) := by decide +kernel
theorem d_M_isAt_53 : decode b_M_isAt 53 = .ok (.iadd, 1) := by decide +kernel
theorem d_M_isAt_54 : decode b_M_isAt 54 = .ok (.iload 5, 2) := by decide +kernel
theorem d_M_isAt_56 : decode b_M_isAt 56 = .ok (.iadd, 1) := by decide +kernel
theorem d_M_isAt_57 : decode b_M_isAt 57 = .ok (.baload, 1) := by decide +kernel
theorem d_M_isAt_58 : decode b_M_isAt 58 = .ok (.aload_n 0, 1) := by decide +kernel
theorem d_M_isAt_59 : decode b_M_isAt 59 = .ok (.getfield 43, 3) := by decide +kernel
theorem d_M_isAt_62 : decode b_M_isAt 62 = .ok (.sipush 256, 3) := by decide +kernel
theorem d_M_isAt_65 : decode b_M_isAt 65 = .ok (.iload_n 3, 1) := by decide +kernel
theorem d_M_isAt_66 : decode b_M_isAt 66 = .ok (.imul, 1) := by decide +kernel
theorem d_M_isAt_67 : decode b_M_isAt 67 = .ok (.iload 5, 2) := by decide +kernel
theorem d_M_isAt_69 : decode b_M_isAt 69 = .ok (.iadd, 1) := by decide +kernel
theorem d_M_isAt_70 : decode b_M_isAt 70 = .ok (.baload, 1) := by decide +kernel
theorem d_M_isAt_71 : decode b_M_isAt 71 = .ok (.if_icmp .ne 7, 3) := by decide +kernel
theorem d_M_isAt_74 : decode b_M_isAt 74 = .ok (.iconst 1, 1) := by decide +kernel
theorem d_M_isAt_75 : decode b_M_isAt 75 = .ok (.goto 4, 3) := by decide +kernel
theorem d_M_isAt_78 : decode b_M_isAt 78 = .ok (.iconst 0, 1) := by decide +kernel
theorem d_M_isAt_79 : decode b_M_isAt 79 = .ok (.istore 4, 2) := by decide +kernel
theorem d_M_isAt_81 : decode b_M_isAt 81 = .ok (.iinc 5 1, 3) := by decide +kernel
theorem d_M_isAt_84 : decode b_M_isAt 84 = .ok (.goto (-57), 3) := by decide +kernel
theorem d_M_isAt_87 : decode b_M_isAt 87 = .ok (.iload 4, 2) := by decide +kernel
theorem d_M_isAt_89 : decode b_M_isAt 89 = .ok (.ireturn, 1) := by decide +kernel
theorem p_M_isAt_b87 (d : Nat)  (v4 : Int32) (h : gk_H) : gk_P gw_I d y_M_isAt b_M_isAt 6 (some .boolean) [] (f_M_isAt_b87  v4 h) 87 [(4, .int v4)] [] h := by
  unfold f_M_isAt_b87
  refine gk_iload (pc := 87) 0 d_M_isAt_87 rfl ?_
  exact gk_zret (pc := 89) rfl d_M_isAt_89 rfl
theorem p_M_isAt_b79 (d : Nat) (b27 : Option Nat → Int32 → Int32 → Int32 → Int32 → Int32 → gk_H → Option (Int32 × gk_H)) (q27 : ∀ (v0 : Option Nat) (v1 : Int32) (v2 : Int32) (v3 : Int32) (v4 : Int32) (v5 : Int32) (h : gk_H), gk_P gw_I d y_M_isAt b_M_isAt 6 (some .boolean) [] (b27 v0 v1 v2 v3 v4 v5 h) 27 [(0, va_rf v0), (1, .int v1), (2, .int v2), (3, .int v3), (4, .int v4), (5, .int v5)] [] h) (v0 : Option Nat) (v1 : Int32) (v2 : Int32) (v3 : Int32) (v5 : Int32) (s0 : Int32) (h : gk_H) : gk_P gw_I d y_M_isAt b_M_isAt 6 (some .boolean) [] (f_M_isAt_b79 b27 v0 v1 v2 v3 v5 s0 h) 79 [(0, va_rf v0), (1, .int v1), (2, .int v2), (3, .int v3), (5, .int v5)] [.int s0] h := by
  unfold f_M_isAt_b79
  refine gk_istore (pc := 79) (L' := [(4, .int s0), (0, va_rf v0), (1, .int v1), (2, .int v2), (3, .int v3), (5, .int v5)]) d_M_isAt_79 (Nat.le_of_ble_eq_true rfl) rfl ?_
  refine gk_iincN (pc := 81) 5 (1 : Int32) (L' := fun x1 => [(5, .int x1), (4, .int s0), (0, va_rf v0), (1, .int v1), (2, .int v2), (3, .int v3)]) d_M_isAt_81 rfl rfl (Nat.le_of_ble_eq_true rfl) (fun _ => rfl) fun x1 => ?_
  refine gk_goto (pc := 84) 27 d_M_isAt_84 rfl ?_
  refine gk_weak [2, 3, 4, 5, 1, 0] (L' := [(0, va_rf v0), (1, .int v1), (2, .int v2), (3, .int v3), (4, .int s0), (5, .int x1)]) rfl ?_
  exact q27 v0 v1 v2 v3 s0 x1 h
theorem p_M_isAt_b27 (d : Nat)  : ∀ (fu : Nat) (v0 : Option Nat) (v1 : Int32) (v2 : Int32) (v3 : Int32) (v4 : Int32) (v5 : Int32) (h : gk_H), gk_P gw_I d y_M_isAt b_M_isAt 6 (some .boolean) [] (f_M_isAt_b27  fu v0 v1 v2 v3 v4 v5 h) 27 [(0, va_rf v0), (1, .int v1), (2, .int v2), (3, .int v3), (4, .int v4), (5, .int v5)] [] h := by
  intro fu
  induction fu with
  | zero => intros; exact gk_none
  | succ fu q27 =>
    intro v0 v1 v2 v3 v4 v5 h
    rw [f_M_isAt_b27]
    refine gk_iload (pc := 27) 5 d_M_isAt_27 rfl ?_
    refine gk_aload_n (pc := 29) 0 d_M_isAt_29 rfl ?_
    refine gk_getR (pc := 30) 7 14 d_M_isAt_30 rfl (Nat.le_of_ble_eq_true rfl) tw_1659 fun x1 => ?_
    refine gk_iload_n (pc := 33) 3 d_M_isAt_33 rfl ?_
    refine gk_iald (pc := 34) d_M_isAt_34 fun x2 => ?_
    refine gk_icmp_ge (pc := 35) 87 d_M_isAt_35 rfl (fun _ => ?_) (fun _ => ?_)
    · refine gk_weak [4] (L' := [(4, .int v4)]) rfl ?_
      exact p_M_isAt_b87 d v4 h
    · refine gk_iload (pc := 38) 4 d_M_isAt_38 rfl ?_
      refine gk_if_eq (pc := 40) 87 d_M_isAt_40 rfl (fun _ => ?_) (fun _ => ?_)
      · refine gk_weak [4] (L' := [(4, .int v4)]) rfl ?_
        exact p_M_isAt_b87 d v4 h
      · refine gk_aload_n (pc := 43) 0 d_M_isAt_43 rfl ?_
        refine gk_getR (pc := 44) 7 15 d_M_isAt_44 rfl (Nat.le_of_ble_eq_true rfl) tw_1660 fun x3 => ?_
        refine gk_sipush (pc := 47) (256 : Int32) d_M_isAt_47 rfl ?_
        refine gk_iload_n (pc := 50) 1 d_M_isAt_50 rfl ?_
        refine gk_imul (pc := 51) d_M_isAt_51 ?_
        refine gk_iload_n (pc := 52) 2 d_M_isAt_52 rfl ?_
        refine gk_iadd (pc := 53) d_M_isAt_53 ?_
        refine gk_iload (pc := 54) 5 d_M_isAt_54 rfl ?_
        refine gk_iadd (pc := 56) d_M_isAt_56 ?_
        refine gk_bald (pc := 57) d_M_isAt_57 fun x4 => ?_
        refine gk_aload_n (pc := 58) 0 d_M_isAt_58 rfl ?_
        refine gk_getR (pc := 59) 7 15 d_M_isAt_59 rfl (Nat.le_of_ble_eq_true rfl) tw_1660 fun x5 => ?_
        refine gk_sipush (pc := 62) (256 : Int32) d_M_isAt_62 rfl ?_
        refine gk_iload_n (pc := 65) 3 d_M_isAt_65 rfl ?_
        refine gk_imul (pc := 66) d_M_isAt_66 ?_
        refine gk_iload (pc := 67) 5 d_M_isAt_67 rfl ?_
        refine gk_iadd (pc := 69) d_M_isAt_69 ?_
        refine gk_bald (pc := 70) d_M_isAt_70 fun x6 => ?_
        refine gk_icmp_ne (pc := 71) 78 d_M_isAt_71 rfl (fun _ => ?_) (fun _ => ?_)
        · refine gk_iconst (pc := 74) (1 : Int32) d_M_isAt_74 rfl ?_
          refine gk_goto (pc := 75) 79 d_M_isAt_75 rfl ?_
          refine gk_weak [0, 1, 2, 3, 5] (L' := [(0, va_rf v0), (1, .int v1), (2, .int v2), (3, .int v3), (5, .int v5)]) rfl ?_
          exact p_M_isAt_b79 d (f_M_isAt_b27 fu) q27 v0 v1 v2 v3 v5 (1 : Int32) h
        · refine gk_iconst (pc := 78) (0 : Int32) d_M_isAt_78 rfl ?_
          refine gk_weak [0, 1, 2, 3, 5] (L' := [(0, va_rf v0), (1, .int v1), (2, .int v2), (3, .int v3), (5, .int v5)]) rfl ?_
          exact p_M_isAt_b79 d (f_M_isAt_b27 fu) q27 v0 v1 v2 v3 v5 (0 : Int32) h
theorem p_M_isAt_b22 (d : Nat)  (v0 : Option Nat) (v1 : Int32) (v2 : Int32) (v3 : Int32) (s0 : Int32) (h : gk_H) : gk_P gw_I d y_M_isAt b_M_isAt 6 (some .boolean) [] (f_M_isAt_b22  v0 v1 v2 v3 s0 h) 22 [(0, va_rf v0), (1, .int v1), (2, .int v2), (3, .int v3)] [.int s0] h := by
  unfold f_M_isAt_b22
  refine gk_istore (pc := 22) (L' := [(4, .int s0), (0, va_rf v0), (1, .int v1), (2, .int v2), (3, .int v3)]) d_M_isAt_22 (Nat.le_of_ble_eq_true rfl) rfl ?_
  refine gk_iconst (pc := 24) (0 : Int32) d_M_isAt_24 rfl ?_
  refine gk_istore (pc := 25) (L' := [(5, .int (0 : Int32)), (4, .int s0), (0, va_rf v0), (1, .int v1), (2, .int v2), (3, .int v3)]) d_M_isAt_25 (Nat.le_of_ble_eq_true rfl) rfl ?_
  refine gk_weak [2, 3, 4, 5, 1, 0] (L' := [(0, va_rf v0), (1, .int v1), (2, .int v2), (3, .int v3), (4, .int s0), (5, .int (0 : Int32))]) rfl ?_
  exact p_M_isAt_b27 d gk_F v0 v1 v2 v3 s0 (0 : Int32) h
theorem w_M_isAt (d : Nat) (a0 : Option Nat) (a1 : Int32) (a2 : Int32) (a3 : Int32) (h : gk_H) : gk_P gw_I d y_M_isAt b_M_isAt 6 (some .boolean) [] (f_M_isAt a0 a1 a2 a3 h) 0 [(0, va_rf a0), (1, .int a1), (2, .int a2), (3, .int a3)] [] h := by
  unfold f_M_isAt
  refine gk_iload_n (pc := 0) 2 d_M_isAt_0 rfl ?_
  refine gk_aload_n (pc := 1) 0 d_M_isAt_1 rfl ?_
  refine gk_getR (pc := 2) 7 14 d_M_isAt_2 rfl (Nat.le_of_ble_eq_true rfl) tw_1659 fun x1 => ?_
  refine gk_iload_n (pc := 5) 3 d_M_isAt_5 rfl ?_
  refine gk_iald (pc := 6) d_M_isAt_6 fun x2 => ?_
  refine gk_iadd (pc := 7) d_M_isAt_7 ?_
  refine gk_aload_n (pc := 8) 0 d_M_isAt_8 rfl ?_
  refine gk_getR (pc := 9) 7 14 d_M_isAt_9 rfl (Nat.le_of_ble_eq_true rfl) tw_1659 fun x3 => ?_
  refine gk_iload_n (pc := 12) 1 d_M_isAt_12 rfl ?_
  refine gk_iald (pc := 13) d_M_isAt_13 fun x4 => ?_
  refine gk_icmp_gt (pc := 14) 21 d_M_isAt_14 rfl (fun _ => ?_) (fun _ => ?_)
  · refine gk_iconst (pc := 21) (0 : Int32) d_M_isAt_21 rfl ?_
    exact p_M_isAt_b22 d a0 a1 a2 a3 (0 : Int32) h
  · refine gk_iconst (pc := 17) (1 : Int32) d_M_isAt_17 rfl ?_
    refine gk_goto (pc := 18) 22 d_M_isAt_18 rfl ?_
    exact p_M_isAt_b22 d a0 a1 a2 a3 (1 : Int32) h
theorem p_M_isAt (d : Nat) (a0 : Option Nat) (a1 : Int32) (a2 : Int32) (a3 : Int32) (h : gk_H) : ∀ r h1, f_M_isAt a0 a1 a2 a3 h = some (r, h1) → gk_M d y_M_isAt b_M_isAt 6 (some .boolean) [va_rf a0, .int a1, .int a2, .int a3] h (.inl (gv_I r)) h1 :=
  fun r h1 e => gk_M_of2 (by decide +kernel) (by simp [lv_args, gk_cat_rf, gk_catI, gk_catJ, gk_catD, gv_V, gv_I, gv_J, gv_D, gv_R]) (by simp [lg_sl, gk_cat_rf, gk_catI, gk_catJ, gk_catD, gv_V, gv_I, gv_J, gv_D, gv_R]) (w_M_isAt d a0 a1 a2 a3 h r h1 e)
