theorem d_M_isLike_0 : decode b_M_isLike 0 = .ok (.iload_n 2, 1) := by decide +kernel
theorem d_M_isLike_1 : decode b_M_isLike 1 = .ok (.iload_n 3, 1) := by decide +kernel
theorem d_M_isLike_2 : decode b_M_isLike 2 = .ok (.iadd, 1) := by decide +kernel
theorem d_M_isLike_3 : decode b_M_isLike 3 = .ok (.istore 8, 2) := by decide +kernel
theorem d_M_isLike_5 : decode b_M_isLike 5 = .ok (.iload 5, 2) := by decide +kernel
theorem d_M_isLike_7 : decode b_M_isLike 7 = .ok (.iload 6, 2) := by decide +kernel
theorem d_M_isLike_9 : decode b_M_isLike 9 = .ok (.iadd, 1) := by decide +kernel
theorem d_M_isLike_10 : decode b_M_isLike 10 = .ok (.istore 9, 2) := by decide +kernel
theorem d_M_isLike_12 : decode b_M_isLike 12 = .ok (.iload_n 2, 1) := by decide +kernel
theorem d_M_isLike_13 : decode b_M_isLike 13 = .ok (.istore 10, 2) := by decide +kernel
theorem d_M_isLike_15 : decode b_M_isLike 15 = .ok (.iload 5, 2) := by decide +kernel
theorem d_M_isLike_17 : decode b_M_isLike 17 = .ok (.istore 11, 2) := by decide +kernel
theorem d_M_isLike_19 : decode b_M_isLike 19 = .ok (.iconst (-1), 1) := by decide +kernel
theorem d_M_isLike_20 : decode b_M_isLike 20 = .ok (.istore 12, 2) := by decide +kernel
theorem d_M_isLike_22 : decode b_M_isLike 22 = .ok (.iload_n 2, 1) := by decide +kernel
theorem d_M_isLike_23 : decode b_M_isLike 23 = .ok (.istore 13, 2) := by decide +kernel
theorem d_M_isLike_25 : decode b_M_isLike 25 = .ok (.iload 11, 2) := by decide +kernel
theorem d_M_isLike_27 : decode b_M_isLike 27 = .ok (.iload 9, 2) := by decide +kernel
theorem d_M_isLike_29 : decode b_M_isLike 29 = .ok (.if_icmp .ne 7, 3) := by decide +kernel
theorem d_M_isLike_32 : decode b_M_isLike 32 = .ok (.iconst 1, 1) := by decide +kernel
theorem d_M_isLike_33 : decode b_M_isLike 33 = .ok (.goto 4, 3) := by decide +kernel
theorem d_M_isLike_36 : decode b_M_isLike 36 = .ok (.iconst 0, 1) := by decide +kernel
theorem d_M_isLike_37 : decode b_M_isLike 37 = .ok (.istore 14, 2) := by decide +kernel
theorem d_M_isLike_39 : decode b_M_isLike 39 = .ok (.iload 14, 2) := by decide +kernel
theorem d_M_isLike_41 : decode b_M_isLike 41 = .ok (.ifCond .eq 17, 3) := by decide +kernel
theorem d_M_isLike_44 : decode b_M_isLike 44 = .ok (.iload 7, 2) := by decide +kernel
theorem d_M_isLike_46 : decode b_M_isLike 46 = .ok (.ifCond .ne 10, 3) := by decide +kernel
theorem d_M_isLike_49 : decode b_M_isLike 49 = .ok (.iload 10, 2) := by decide +kernel
theorem d_M_isLike_51 : decode b_M_isLike 51 = .ok (.iload 8, 2) := by decide +kernel
theorem d_M_isLike_53 : decode b_M_isLike 53 = .ok (.if_icmp .ne 5, 3) := by decide +kernel
theorem d_M_isLike_56 : decode b_M_isLike 56 = .ok (.iconst 1, 1) := by decide +kernel
theorem d_M_isLike_57 : decode b_M_isLike 57 = .ok (.ireturn, 1) := by decide +kernel
theorem d_M_isLike_58 : decode b_M_isLike 58 = .ok (.iload 14, 2) := by decide +kernel
theorem d_M_isLike_60 : decode b_M_isLike 60 = .ok (.ifCond .ne 62, 3) := by decide +kernel
theorem d_M_isLike_63 : decode b_M_isLike 63 = .ok (.aload 4, 2) := by decide +kernel
theorem d_M_isLike_65 : decode b_M_isLike 65 = .ok (.iload 11, 2) := by decide +kernel
theorem d_M_isLike_67 : decode b_M_isLike 67 = .ok (.baload, 1) := by decide +kernel
theorem d_M_isLike_68 : decode b_M_isLike 68 = .ok (.bipush 126, 2) := by decide +kernel
theorem d_M_isLike_70 : decode b_M_isLike 70 = .ok (.if_icmp .ne 52, 3) := by decide +kernel
theorem d_M_isLike_73 : decode b_M_isLike 73 = .ok (.iload 11, 2) := by decide +kernel
theorem d_M_isLike_75 : decode b_M_isLike 75 = .ok (.iconst 1, 1) := by decide +kernel
theorem d_M_isLike_76 : decode b_M_isLike 76 = .ok (.iadd, 1) := by decide +kernel
theorem d_M_isLike_77 : decode b_M_isLike 77 = .ok (.iload 9, 2) := by decide +kernel
theorem d_M_isLike_79 : decode b_M_isLike 79 = .ok (.if_icmp .ge 43, 3) := by decide +kernel
theorem d_M_isLike_82 : decode b_M_isLike 82 = .ok (.aload 4, 2) := by decide +kernel
theorem d_M_isLike_84 : decode b_M_isLike 84 = .ok (.iload 11, 2) := by decide +kernel
theorem d_M_isLike_86 : decode b_M_isLike 86 = .ok (.iconst 1, 1) := by decide +kernel
theorem d_M_isLike_87 : decode b_M_isLike 87 = .ok (.iadd, 1) := by decide +kernel
theorem d_M_isLike_88 : decode b_M_isLike 88 = .ok (.baload, 1) := by decide +kernel
theorem d_M_isLike_89 : decode b_M_isLike 89 = .ok (.bipush 63, 2) := by decide +kernel
theorem d_M_isLike_91 : decode b_M_isLike 91 = .ok (.if_icmp .eq 27, 3) := by decide +kernel
theorem d_M_isLike_94 : decode b_M_isLike 94 = .ok (.aload 4, 2) := by decide +kernel
theorem d_M_isLike_96 : decode b_M_isLike 96 = .ok (.iload 11, 2) := by decide +kernel
theorem d_M_isLike_98 : decode b_M_isLike 98 = .ok (.iconst 1, 1) := by decide +kernel
theorem d_M_isLike_99 : decode b_M_isLike 99 = .ok (.iadd, 1) := by decide +kernel
theorem d_M_isLike_100 : decode b_M_isLike 100 = .ok (.baload, 1) := by decide +kernel
theorem d_M_isLike_101 : decode b_M_isLike 101 = .ok (.bipush 42, 2) := by decide +kernel
theorem d_M_isLike_103 : decode b_M_isLike 103 = .ok (.if_icmp .eq 15, 3) := by decide +kernel
theorem d_M_isLike_106 : decode b_M_isLike 106 = .ok (.aload 4, 2) := by decide +kernel
theorem d_M_isLike_108 : decode b_M_isLike 108 = .ok (.iload 11, 2) := by decide +kernel
theorem d_M_isLike_110 : decode b_M_isLike 110 = .ok (.iconst 1, 1) := by decide +kernel
theorem d_M_isLike_111 : decode b_M_isLike 111 = .ok (.iadd, 1) := by decide +kernel
theorem d_M_isLike_112 : decode b_M_isLike 112 = .ok (.baload, 1) := by decide +kernel
theorem d_M_isLike_113 : decode b_M_isLike 113 = .ok (.bipush 126, 2) := by decide +kernel
theorem d_M_isLike_115 : decode b_M_isLike 115 = .ok (.if_icmp .ne 7, 3) := by decide +kernel
theorem d_M_isLike_118 : decode b_M_isLike 118 = .ok (.iconst 1, 1) := by decide +kernel
theorem d_M_isLike_119 : decode b_M_isLike 119 = .ok (.goto 4, 3) := by decide +kernel
theorem d_M_isLike_122 : decode b_M_isLike 122 = .ok (.iconst 0, 1) := by decide +kernel
theorem d_M_isLike_123 : decode b_M_isLike 123 = .ok (.istore 15, 2) := by decide +kernel
theorem d_M_isLike_125 : decode b_M_isLike 125 = .ok (.iload 14, 2) := by decide +kernel
theorem d_M_isLike_127 : decode b_M_isLike 127 = .ok (.ifCond .ne 32, 3) := by decide +kernel
theorem d_M_isLike_130 : decode b_M_isLike 130 = .ok (.iload 15, 2) := by decide +kernel
theorem d_M_isLike_132 : decode b_M_isLike 132 = .ok (.ifCond .ne 27, 3) := by decide +kernel
theorem d_M_isLike_135 : decode b_M_isLike 135 = .ok (.aload 4, 2) := by decide +kernel
theorem d_M_isLike_137 : decode b_M_isLike 137 = .ok (.iload 11, 2) := by decide +kernel
theorem d_M_isLike_139 : decode b_M_isLike 139 = .ok (.baload, 1) := by decide +kernel
theorem d_M_isLike_140 : decode b_M_isLike 140 = .ok (.bipush 42, 2) := by decide +kernel
theorem d_M_isLike_142 : decode b_M_isLike 142 = .ok (.if_icmp .ne 17, 3) := by decide +kernel
theorem d_M_isLike_145 : decode b_M_isLike 145 = .ok (.iload 11, 2) := by decide +kernel
theorem d_M_isLike_147 : decode b_M_isLike 147 = .ok (.istore 12, 2) := by decide +kernel
theorem d_M_isLike_149 : decode b_M_isLike 149 = .ok (.iload 10, 2) := by decide +kernel
theorem d_M_isLike_151 : decode b_M_isLike 151 = .ok (.istore 13, 2) := by decide +kernel
theorem d_M_isLike_153 : decode b_M_isLike 153 = .ok (.iinc 11 1, 3) := by decide +kernel
theorem d_M_isLike_156 : decode b_M_isLike 156 = .ok (.goto 111, 3) := by decide +kernel
theorem d_M_isLike_159 : decode b_M_isLike 159 = .ok (.iload 14, 2) := by decide +kernel
theorem d_M_isLike_161 : decode b_M_isLike 161 = .ok (.ifCond .ne 79, 3) := by decide +kernel
theorem d_M_isLike_164 : decode b_M_isLike 164 = .ok (.iload 10, 2) := by decide +kernel
theorem d_M_isLike_166 : decode b_M_isLike 166 = .ok (.iload 8, 2) := by decide +kernel
theorem d_M_isLike_168 : decode b_M_isLike 168 = .ok (.if_icmp .ge 72, 3) := by decide +kernel
theorem d_M_isLike_171 : decode b_M_isLike 171 = .ok (.iload 15, 2) := by decide +kernel
theorem d_M_isLike_173 : decode b_M_isLike 173 = .ok (.ifCond .ne 13, 3) := by decide +kernel
theorem d_M_isLike_176 : decode b_M_isLike 176 = .ok (.aload 4, 2) := by decide +kernel
theorem d_M_isLike_178 : decode b_M_isLike 178 = .ok (.iload 11, 2) := by decide +kernel
theorem d_M_isLike_180 : decode b_M_isLike 180 = .ok (.baload, 1) := by decide +kernel
theorem d_M_isLike_181 : decode b_M_isLike 181 = .ok (.bipush 63, 2) := by decide +kernel
theorem d_M_isLike_183 : decode b_M_isLike 183 = .ok (.if_icmp .eq 33, 3) := by decide +kernel
theorem d_M_isLike_186 : decode b_M_isLike 186 = .ok (.aload_n 1, 1) := by decide +kernel
theorem d_M_isLike_187 : decode b_M_isLike 187 = .ok (.iload 10, 2) := by decide +kernel
theorem d_M_isLike_189 : decode b_M_isLike 189 = .ok (.baload, 1) := by decide +kernel
theorem d_M_isLike_190 : decode b_M_isLike 190 = .ok (.invokestatic 158, 3) := by decide +kernel
theorem d_M_isLike_193 : decode b_M_isLike 193 = .ok (.aload 4, 2) := by decide +kernel
theorem d_M_isLike_195 : decode b_M_isLike 195 = .ok (.iload 15, 2) := by decide +kernel
theorem d_M_isLike_197 : decode b_M_isLike 197 = .ok (.ifCond .eq 10, 3) := by decide +kernel
theorem d_M_isLike_200 : decode b_M_isLike 200 = .ok (.iload 11, 2) := by decide +kernel
theorem d_M_isLike_202 : decode b_M_isLike 202 = .ok (.iconst 1, 1) := by decide +kernel
theorem d_M_isLike_203 : decode b_M_isLike 203 = .ok (.iadd, 1) := by decide +kernel
theorem d_M_isLike_204 : decode b_M_isLike 204 = .ok (.goto 5, 3) := by decide +kernel
theorem d_M_isLike_207 : decode b_M_isLike 207 = .ok (.iload 11, 2) := by decide +kernel
theorem d_M_isLike_209 : decode b_M_isLike 209 = .ok (.baload, 1) := by decide +kernel
theorem d_M_isLike_210 : decode b_M_isLike 210 = .ok (.invokestatic 158, 3) := by decide +kernel
theorem d_M_isLike_213 : decode b_M_isLike 213 = .ok (.if_icmp .ne 27, 3) := by decide +kernel
theorem d_M_isLike_216 : decode b_M_isLike 216 = .ok (.iload 15, 2) := by decide +kernel
theorem d_M_isLike_218 : decode b_M_isLike 218 = .ok (.ifCond .eq 10, 3) := by decide +kernel
theorem d_M_isLike_221 : decode b_M_isLike 221 = .ok (.iload 11, 2) := by decide +kernel
theorem d_M_isLike_223 : decode b_M_isLike 223 = .ok (.iconst 2, 1) := by decide +kernel
theorem d_M_isLike_224 : decode b_M_isLike 224 = .ok (.iadd, 1) := by decide +kernel
theorem d_M_isLike_225 : decode b_M_isLike 225 = .ok (.goto 7, 3) := by decide +kernel
theorem d_M_isLike_228 : decode b_M_isLike 228 = .ok (.iload 11, 2) := by decide +kernel
theorem d_M_isLike_230 : decode b_M_isLike 230 = .ok (.iconst 1, 1) := by decide +kernel
theorem d_M_isLike_231 : decode b_M_isLike 231 = .ok (.iadd, 1) := by decide +kernel
theorem d_M_isLike_232 : decode b_M_isLike 232 = .ok (.istore 11, 2) := by decide +kernel
theorem d_M_isLike_234 : decode b_M_isLike 234 = .ok (.iinc 10 1, 3) := by decide +kernel
theorem d_M_isLike_237 : decode b_M_isLike 237 = .ok (.goto 30, 3) := by decide +kernel
theorem d_M_isLike_240 : decode b_M_isLike 240 = .ok (.iload 12, 2) := by decide +kernel
theorem d_M_isLike_242 : decode b_M_isLike 242 = .ok (.ifCond .lt 10, 3) := by decide +kernel
theorem d_M_isLike_245 : decode b_M_isLike 245 = .ok (.iload 13, 2) := by decide +kernel
theorem d_M_isLike_247 : decode b_M_isLike 247 = .ok (.iload 8, 2) := by decide +kernel
theorem d_M_isLike_249 : decode b_M_isLike 249 = .ok (.if_icmp .lt 5, 3) := by decide +kernel
theorem d_M_isLike_252 : decode b_M_isLike 252 = .ok (.iconst 0, 1) := by decide +kernel
theorem d_M_isLike_253 : decode b_M_isLike 253 = .ok (.ireturn, 1) := by decide +kernel
theorem d_M_isLike_254 : decode b_M_isLike 254 = .ok (.iinc 13 1, 3) := by decide +kernel
theorem d_M_isLike_257 : decode b_M_isLike 257 = .ok (.iload 13, 2) := by decide +kernel
theorem d_M_isLike_259 : decode b_M_isLike 259 = .ok (.istore 10, 2) := by decide +kernel
theorem d_M_isLike_261 : decode b_M_isLike 261 = .ok (.iload 12, 2) := by decide +kernel
theorem d_M_isLike_263 : decode b_M_isLike 263 = .ok (.iconst 1, 1) := by decide +kernel
theorem d_M_isLike_264 : decode b_M_isLike 264 = .ok (.iadd, 1) := by decide +kernel
theorem d_M_isLike_265 : decode b_M_isLike 265 = .ok (.istore 11, 2) := by decide +kernel
theorem d_M_isLike_267 : decode b_M_isLike 267 = .ok (.goto (-242), 3) := by decide +kernel
theorem p_M_isLike_b252 (d : Nat)   (h : gk_H) : gk_P gw_I (d + 1) y_M_isLike b_M_isLike 16 (some .boolean) [] (f_M_isLike_b252   h) 252 [] [] h := by
  unfold f_M_isLike_b252
  refine gk_iconst (pc := 252) (0 : Int32) d_M_isLike_252 rfl ?_
  exact gk_zret (pc := 253) rfl d_M_isLike_253 rfl
theorem p_M_isLike_b267 (d : Nat) (b25 : Option Nat → Option Nat → Int32 → Int32 → Int32 → Int32 → Int32 → Int32 → Int32 → gk_H → Option (Int32 × gk_H)) (q25 : ∀ (v1 : Option Nat) (v4 : Option Nat) (v7 : Int32) (v8 : Int32) (v9 : Int32) (v10 : Int32) (v11 : Int32) (v12 : Int32) (v13 : Int32) (h : gk_H), gk_P gw_I (d + 1) y_M_isLike b_M_isLike 16 (some .boolean) [] (b25 v1 v4 v7 v8 v9 v10 v11 v12 v13 h) 25 [(1, va_rf v1), (4, va_rf v4), (7, .int v7), (8, .int v8), (9, .int v9), (10, .int v10), (11, .int v11), (12, .int v12), (13, .int v13)] [] h) (v1 : Option Nat) (v4 : Option Nat) (v7 : Int32) (v8 : Int32) (v9 : Int32) (v10 : Int32) (v11 : Int32) (v12 : Int32) (v13 : Int32) (h : gk_H) : gk_P gw_I (d + 1) y_M_isLike b_M_isLike 16 (some .boolean) [] (f_M_isLike_b267 b25 v1 v4 v7 v8 v9 v10 v11 v12 v13 h) 267 [(1, va_rf v1), (4, va_rf v4), (7, .int v7), (8, .int v8), (9, .int v9), (10, .int v10), (11, .int v11), (12, .int v12), (13, .int v13)] [] h := by
  unfold f_M_isLike_b267
  refine gk_goto (pc := 267) 25 d_M_isLike_267 rfl ?_
  exact q25 v1 v4 v7 v8 v9 v10 v11 v12 v13 h
theorem p_M_isLike_b240 (d : Nat) (b25 : Option Nat → Option Nat → Int32 → Int32 → Int32 → Int32 → Int32 → Int32 → Int32 → gk_H → Option (Int32 × gk_H)) (q25 : ∀ (v1 : Option Nat) (v4 : Option Nat) (v7 : Int32) (v8 : Int32) (v9 : Int32) (v10 : Int32) (v11 : Int32) (v12 : Int32) (v13 : Int32) (h : gk_H), gk_P gw_I (d + 1) y_M_isLike b_M_isLike 16 (some .boolean) [] (b25 v1 v4 v7 v8 v9 v10 v11 v12 v13 h) 25 [(1, va_rf v1), (4, va_rf v4), (7, .int v7), (8, .int v8), (9, .int v9), (10, .int v10), (11, .int v11), (12, .int v12), (13, .int v13)] [] h) (v1 : Option Nat) (v4 : Option Nat) (v7 : Int32) (v8 : Int32) (v9 : Int32) (v12 : Int32) (v13 : Int32) (h : gk_H) : gk_P gw_I (d + 1) y_M_isLike b_M_isLike 16 (some .boolean) [] (f_M_isLike_b240 b25 v1 v4 v7 v8 v9 v12 v13 h) 240 [(1, va_rf v1), (4, va_rf v4), (7, .int v7), (8, .int v8), (9, .int v9), (12, .int v12), (13, .int v13)] [] h := by
  unfold f_M_isLike_b240
  refine gk_iload (pc := 240) 5 d_M_isLike_240 rfl ?_
  refine gk_if_lt (pc := 242) 252 d_M_isLike_242 rfl (fun _ => ?_) (fun _ => ?_)
  · refine gk_weak [] (L' := []) rfl ?_
    exact p_M_isLike_b252 d h
  · refine gk_iload (pc := 245) 6 d_M_isLike_245 rfl ?_
    refine gk_iload (pc := 247) 3 d_M_isLike_247 rfl ?_
    refine gk_icmp_lt (pc := 249) 254 d_M_isLike_249 rfl (fun _ => ?_) (fun _ => ?_)
    · refine gk_iincN (pc := 254) 6 (1 : Int32) (L' := fun x1 => [(13, .int x1), (1, va_rf v1), (4, va_rf v4), (7, .int v7), (8, .int v8), (9, .int v9), (12, .int v12)]) d_M_isLike_254 rfl rfl (Nat.le_of_ble_eq_true rfl) (fun _ => rfl) fun x1 => ?_
      refine gk_iload (pc := 257) 0 d_M_isLike_257 rfl ?_
      refine gk_istore (pc := 259) (L' := [(10, .int x1), (13, .int x1), (1, va_rf v1), (4, va_rf v4), (7, .int v7), (8, .int v8), (9, .int v9), (12, .int v12)]) d_M_isLike_259 (Nat.le_of_ble_eq_true rfl) rfl ?_
      refine gk_iload (pc := 261) 7 d_M_isLike_261 rfl ?_
      refine gk_iconst (pc := 263) (1 : Int32) d_M_isLike_263 rfl ?_
      refine gk_iadd (pc := 264) d_M_isLike_264 ?_
      refine gk_topI (pc := 265) fun x2 => ?_
      refine gk_istore (pc := 265) (L' := [(11, .int x2), (10, .int x1), (13, .int x1), (1, va_rf v1), (4, va_rf v4), (7, .int v7), (8, .int v8), (9, .int v9), (12, .int v12)]) d_M_isLike_265 (Nat.le_of_ble_eq_true rfl) rfl ?_
      refine gk_weak [3, 4, 5, 6, 7, 1, 0, 8, 2] (L' := [(1, va_rf v1), (4, va_rf v4), (7, .int v7), (8, .int v8), (9, .int v9), (10, .int x1), (11, .int x2), (12, .int v12), (13, .int x1)]) rfl ?_
      exact p_M_isLike_b267 d b25 q25 v1 v4 v7 v8 v9 x1 x2 v12 x1 h
    · refine gk_weak [] (L' := []) rfl ?_
      exact p_M_isLike_b252 d h
theorem p_M_isLike_b232 (d : Nat) (b25 : Option Nat → Option Nat → Int32 → Int32 → Int32 → Int32 → Int32 → Int32 → Int32 → gk_H → Option (Int32 × gk_H)) (q25 : ∀ (v1 : Option Nat) (v4 : Option Nat) (v7 : Int32) (v8 : Int32) (v9 : Int32) (v10 : Int32) (v11 : Int32) (v12 : Int32) (v13 : Int32) (h : gk_H), gk_P gw_I (d + 1) y_M_isLike b_M_isLike 16 (some .boolean) [] (b25 v1 v4 v7 v8 v9 v10 v11 v12 v13 h) 25 [(1, va_rf v1), (4, va_rf v4), (7, .int v7), (8, .int v8), (9, .int v9), (10, .int v10), (11, .int v11), (12, .int v12), (13, .int v13)] [] h) (v1 : Option Nat) (v4 : Option Nat) (v7 : Int32) (v8 : Int32) (v9 : Int32) (v10 : Int32) (v12 : Int32) (v13 : Int32) (s0 : Int32) (h : gk_H) : gk_P gw_I (d + 1) y_M_isLike b_M_isLike 16 (some .boolean) [] (f_M_isLike_b232 b25 v1 v4 v7 v8 v9 v10 v12 v13 s0 h) 232 [(1, va_rf v1), (4, va_rf v4), (7, .int v7), (8, .int v8), (9, .int v9), (10, .int v10), (12, .int v12), (13, .int v13)] [.int s0] h := by
  unfold f_M_isLike_b232
  refine gk_istore (pc := 232) (L' := [(11, .int s0), (1, va_rf v1), (4, va_rf v4), (7, .int v7), (8, .int v8), (9, .int v9), (10, .int v10), (12, .int v12), (13, .int v13)]) d_M_isLike_232 (Nat.le_of_ble_eq_true rfl) rfl ?_
  refine gk_iincN (pc := 234) 6 (1 : Int32) (L' := fun x1 => [(10, .int x1), (11, .int s0), (1, va_rf v1), (4, va_rf v4), (7, .int v7), (8, .int v8), (9, .int v9), (12, .int v12), (13, .int v13)]) d_M_isLike_234 rfl rfl (Nat.le_of_ble_eq_true rfl) (fun _ => rfl) fun x1 => ?_
  refine gk_goto (pc := 237) 267 d_M_isLike_237 rfl ?_
  refine gk_weak [2, 3, 4, 5, 6, 0, 1, 7, 8] (L' := [(1, va_rf v1), (4, va_rf v4), (7, .int v7), (8, .int v8), (9, .int v9), (10, .int x1), (11, .int s0), (12, .int v12), (13, .int v13)]) rfl ?_
  exact p_M_isLike_b267 d b25 q25 v1 v4 v7 v8 v9 x1 s0 v12 v13 h
theorem p_M_isLike_b216 (d : Nat) (b25 : Option Nat → Option Nat → Int32 → Int32 → Int32 → Int32 → Int32 → Int32 → Int32 → gk_H → Option (Int32 × gk_H)) (q25 : ∀ (v1 : Option Nat) (v4 : Option Nat) (v7 : Int32) (v8 : Int32) (v9 : Int32) (v10 : Int32) (v11 : Int32) (v12 : Int32) (v13 : Int32) (h : gk_H), gk_P gw_I (d + 1) y_M_isLike b_M_isLike 16 (some .boolean) [] (b25 v1 v4 v7 v8 v9 v10 v11 v12 v13 h) 25 [(1, va_rf v1), (4, va_rf v4), (7, .int v7), (8, .int v8), (9, .int v9), (10, .int v10), (11, .int v11), (12, .int v12), (13, .int v13)] [] h) (v1 : Option Nat) (v4 : Option Nat) (v7 : Int32) (v8 : Int32) (v9 : Int32) (v10 : Int32) (v11 : Int32) (v12 : Int32) (v13 : Int32) (v15 : Int32) (h : gk_H) : gk_P gw_I (d + 1) y_M_isLike b_M_isLike 16 (some .boolean) [] (f_M_isLike_b216 b25 v1 v4 v7 v8 v9 v10 v11 v12 v13 v15 h) 216 [(1, va_rf v1), (4, va_rf v4), (7, .int v7), (8, .int v8), (9, .int v9), (10, .int v10), (11, .int v11), (12, .int v12), (13, .int v13), (15, .int v15)] [] h := by
  unfold f_M_isLike_b216
  refine gk_iload (pc := 216) 9 d_M_isLike_216 rfl ?_
  refine gk_if_eq (pc := 218) 228 d_M_isLike_218 rfl (fun _ => ?_) (fun _ => ?_)
  · refine gk_iload (pc := 228) 6 d_M_isLike_228 rfl ?_
    refine gk_iconst (pc := 230) (1 : Int32) d_M_isLike_230 rfl ?_
    refine gk_iadd (pc := 231) d_M_isLike_231 ?_
    refine gk_weak [0, 1, 2, 3, 4, 5, 7, 8] (L' := [(1, va_rf v1), (4, va_rf v4), (7, .int v7), (8, .int v8), (9, .int v9), (10, .int v10), (12, .int v12), (13, .int v13)]) rfl ?_
    exact p_M_isLike_b232 d b25 q25 v1 v4 v7 v8 v9 v10 v12 v13 (v11 + (1 : Int32)) h
  · refine gk_iload (pc := 221) 6 d_M_isLike_221 rfl ?_
    refine gk_iconst (pc := 223) (2 : Int32) d_M_isLike_223 rfl ?_
    refine gk_iadd (pc := 224) d_M_isLike_224 ?_
    refine gk_goto (pc := 225) 232 d_M_isLike_225 rfl ?_
    refine gk_weak [0, 1, 2, 3, 4, 5, 7, 8] (L' := [(1, va_rf v1), (4, va_rf v4), (7, .int v7), (8, .int v8), (9, .int v9), (10, .int v10), (12, .int v12), (13, .int v13)]) rfl ?_
    exact p_M_isLike_b232 d b25 q25 v1 v4 v7 v8 v9 v10 v12 v13 (v11 + (2 : Int32)) h
theorem p_M_isLike_b209 (d : Nat) (b25 : Option Nat → Option Nat → Int32 → Int32 → Int32 → Int32 → Int32 → Int32 → Int32 → gk_H → Option (Int32 × gk_H)) (q25 : ∀ (v1 : Option Nat) (v4 : Option Nat) (v7 : Int32) (v8 : Int32) (v9 : Int32) (v10 : Int32) (v11 : Int32) (v12 : Int32) (v13 : Int32) (h : gk_H), gk_P gw_I (d + 1) y_M_isLike b_M_isLike 16 (some .boolean) [] (b25 v1 v4 v7 v8 v9 v10 v11 v12 v13 h) 25 [(1, va_rf v1), (4, va_rf v4), (7, .int v7), (8, .int v8), (9, .int v9), (10, .int v10), (11, .int v11), (12, .int v12), (13, .int v13)] [] h) (v1 : Option Nat) (v4 : Option Nat) (v7 : Int32) (v8 : Int32) (v9 : Int32) (v10 : Int32) (v11 : Int32) (v12 : Int32) (v13 : Int32) (v15 : Int32) (s0 : Int32) (s1 : Option Nat) (s2 : Int32) (h : gk_H) : gk_P gw_I (d + 1) y_M_isLike b_M_isLike 16 (some .boolean) [] (f_M_isLike_b209 b25 v1 v4 v7 v8 v9 v10 v11 v12 v13 v15 s0 s1 s2 h) 209 [(1, va_rf v1), (4, va_rf v4), (7, .int v7), (8, .int v8), (9, .int v9), (10, .int v10), (11, .int v11), (12, .int v12), (13, .int v13), (15, .int v15)] [.int s2, va_rf s1, .int s0] h := by
  unfold f_M_isLike_b209
  refine gk_bald (pc := 209) d_M_isLike_209 fun x1 => ?_
  refine gk_callS (pc := 210) (d := d) (w' := gv_I) (as := [.int x1]) (n := 1) d_M_isLike_210 rfl rfl (Nat.le_of_ble_eq_true rfl) tw_1817 tw_1818 tw_99 cw_M_great hy_M_great (Nat.le_of_ble_eq_true rfl) (p_M_great d x1 h) fun x2 h1 => ?_
  refine gk_icmp_ne (pc := 213) 240 d_M_isLike_213 rfl (fun _ => ?_) (fun _ => ?_)
  · exact p_M_isLike_b216 d b25 q25 v1 v4 v7 v8 v9 v10 v11 v12 v13 v15 h1
  · refine gk_weak [0, 1, 2, 3, 4, 7, 8] (L' := [(1, va_rf v1), (4, va_rf v4), (7, .int v7), (8, .int v8), (9, .int v9), (12, .int v12), (13, .int v13)]) rfl ?_
    exact p_M_isLike_b240 d b25 q25 v1 v4 v7 v8 v9 v12 v13 h1
theorem p_M_isLike_b186 (d : Nat) (b25 : Option Nat → Option Nat → Int32 → Int32 → Int32 → Int32 → Int32 → Int32 → Int32 → gk_H → Option (Int32 × gk_H)) (q25 : ∀ (v1 : Option Nat) (v4 : Option Nat) (v7 : Int32) (v8 : Int32) (v9 : Int32) (v10 : Int32) (v11 : Int32) (v12 : Int32) (v13 : Int32) (h : gk_H), gk_P gw_I (d + 1) y_M_isLike b_M_isLike 16 (some .boolean) [] (b25 v1 v4 v7 v8 v9 v10 v11 v12 v13 h) 25 [(1, va_rf v1), (4, va_rf v4), (7, .int v7), (8, .int v8), (9, .int v9), (10, .int v10), (11, .int v11), (12, .int v12), (13, .int v13)] [] h) (v1 : Option Nat) (v4 : Option Nat) (v7 : Int32) (v8 : Int32) (v9 : Int32) (v10 : Int32) (v11 : Int32) (v12 : Int32) (v13 : Int32) (v15 : Int32) (h : gk_H) : gk_P gw_I (d + 1) y_M_isLike b_M_isLike 16 (some .boolean) [] (f_M_isLike_b186 b25 v1 v4 v7 v8 v9 v10 v11 v12 v13 v15 h) 186 [(1, va_rf v1), (4, va_rf v4), (7, .int v7), (8, .int v8), (9, .int v9), (10, .int v10), (11, .int v11), (12, .int v12), (13, .int v13), (15, .int v15)] [] h := by
  unfold f_M_isLike_b186
  refine gk_aload_n (pc := 186) 0 d_M_isLike_186 rfl ?_
  refine gk_iload (pc := 187) 5 d_M_isLike_187 rfl ?_
  refine gk_bald (pc := 189) d_M_isLike_189 fun x1 => ?_
  refine gk_callS (pc := 190) (d := d) (w' := gv_I) (as := [.int x1]) (n := 1) d_M_isLike_190 rfl rfl (Nat.le_of_ble_eq_true rfl) tw_1817 tw_1818 tw_99 cw_M_great hy_M_great (Nat.le_of_ble_eq_true rfl) (p_M_great d x1 h) fun x2 h1 => ?_
  refine gk_aload (pc := 193) 1 d_M_isLike_193 rfl ?_
  refine gk_iload (pc := 195) 9 d_M_isLike_195 rfl ?_
  refine gk_if_eq (pc := 197) 207 d_M_isLike_197 rfl (fun _ => ?_) (fun _ => ?_)
  · refine gk_iload (pc := 207) 6 d_M_isLike_207 rfl ?_
    exact p_M_isLike_b209 d b25 q25 v1 v4 v7 v8 v9 v10 v11 v12 v13 v15 x2 v4 v11 h1
  · refine gk_iload (pc := 200) 6 d_M_isLike_200 rfl ?_
    refine gk_iconst (pc := 202) (1 : Int32) d_M_isLike_202 rfl ?_
    refine gk_iadd (pc := 203) d_M_isLike_203 ?_
    refine gk_goto (pc := 204) 209 d_M_isLike_204 rfl ?_
    exact p_M_isLike_b209 d b25 q25 v1 v4 v7 v8 v9 v10 v11 v12 v13 v15 x2 v4 (v11 + (1 : Int32)) h1
theorem p_M_isLike_b159 (d : Nat) (b25 : Option Nat → Option Nat → Int32 → Int32 → Int32 → Int32 → Int32 → Int32 → Int32 → gk_H → Option (Int32 × gk_H)) (q25 : ∀ (v1 : Option Nat) (v4 : Option Nat) (v7 : Int32) (v8 : Int32) (v9 : Int32) (v10 : Int32) (v11 : Int32) (v12 : Int32) (v13 : Int32) (h : gk_H), gk_P gw_I (d + 1) y_M_isLike b_M_isLike 16 (some .boolean) [] (b25 v1 v4 v7 v8 v9 v10 v11 v12 v13 h) 25 [(1, va_rf v1), (4, va_rf v4), (7, .int v7), (8, .int v8), (9, .int v9), (10, .int v10), (11, .int v11), (12, .int v12), (13, .int v13)] [] h) (v1 : Option Nat) (v4 : Option Nat) (v7 : Int32) (v8 : Int32) (v9 : Int32) (v10 : Int32) (v11 : Int32) (v12 : Int32) (v13 : Int32) (v14 : Int32) (v15 : Int32) (h : gk_H) : gk_P gw_I (d + 1) y_M_isLike b_M_isLike 16 (some .boolean) [] (f_M_isLike_b159 b25 v1 v4 v7 v8 v9 v10 v11 v12 v13 v14 v15 h) 159 [(1, va_rf v1), (4, va_rf v4), (7, .int v7), (8, .int v8), (9, .int v9), (10, .int v10), (11, .int v11), (12, .int v12), (13, .int v13), (14, .int v14), (15, .int v15)] [] h := by
  unfold f_M_isLike_b159
  refine gk_iload (pc := 159) 9 d_M_isLike_159 rfl ?_
  refine gk_if_ne (pc := 161) 240 d_M_isLike_161 rfl (fun _ => ?_) (fun _ => ?_)
  · refine gk_iload (pc := 164) 5 d_M_isLike_164 rfl ?_
    refine gk_iload (pc := 166) 3 d_M_isLike_166 rfl ?_
    refine gk_icmp_ge (pc := 168) 240 d_M_isLike_168 rfl (fun _ => ?_) (fun _ => ?_)
    · refine gk_weak [0, 1, 2, 3, 4, 7, 8] (L' := [(1, va_rf v1), (4, va_rf v4), (7, .int v7), (8, .int v8), (9, .int v9), (12, .int v12), (13, .int v13)]) rfl ?_
      exact p_M_isLike_b240 d b25 q25 v1 v4 v7 v8 v9 v12 v13 h
    · refine gk_iload (pc := 171) 10 d_M_isLike_171 rfl ?_
      refine gk_if_ne (pc := 173) 186 d_M_isLike_173 rfl (fun _ => ?_) (fun _ => ?_)
      · refine gk_aload (pc := 176) 1 d_M_isLike_176 rfl ?_
        refine gk_iload (pc := 178) 6 d_M_isLike_178 rfl ?_
        refine gk_bald (pc := 180) d_M_isLike_180 fun x1 => ?_
        refine gk_bipush (pc := 181) (63 : Int32) d_M_isLike_181 rfl ?_
        refine gk_icmp_eq (pc := 183) 216 d_M_isLike_183 rfl (fun _ => ?_) (fun _ => ?_)
        · refine gk_weak [0, 1, 2, 3, 4, 5, 6, 7, 8, 10] (L' := [(1, va_rf v1), (4, va_rf v4), (7, .int v7), (8, .int v8), (9, .int v9), (10, .int v10), (11, .int v11), (12, .int v12), (13, .int v13), (15, .int v15)]) rfl ?_
          exact p_M_isLike_b216 d b25 q25 v1 v4 v7 v8 v9 v10 v11 v12 v13 v15 h
        · refine gk_weak [0, 1, 2, 3, 4, 5, 6, 7, 8, 10] (L' := [(1, va_rf v1), (4, va_rf v4), (7, .int v7), (8, .int v8), (9, .int v9), (10, .int v10), (11, .int v11), (12, .int v12), (13, .int v13), (15, .int v15)]) rfl ?_
          exact p_M_isLike_b186 d b25 q25 v1 v4 v7 v8 v9 v10 v11 v12 v13 v15 h
      · refine gk_weak [0, 1, 2, 3, 4, 5, 6, 7, 8, 10] (L' := [(1, va_rf v1), (4, va_rf v4), (7, .int v7), (8, .int v8), (9, .int v9), (10, .int v10), (11, .int v11), (12, .int v12), (13, .int v13), (15, .int v15)]) rfl ?_
        exact p_M_isLike_b186 d b25 q25 v1 v4 v7 v8 v9 v10 v11 v12 v13 v15 h
  · refine gk_weak [0, 1, 2, 3, 4, 7, 8] (L' := [(1, va_rf v1), (4, va_rf v4), (7, .int v7), (8, .int v8), (9, .int v9), (12, .int v12), (13, .int v13)]) rfl ?_
    exact p_M_isLike_b240 d b25 q25 v1 v4 v7 v8 v9 v12 v13 h
theorem p_M_isLike_b123 (d : Nat) (b25 : Option Nat → Option Nat → Int32 → Int32 → Int32 → Int32 → Int32 → Int32 → Int32 → gk_H → Option (Int32 × gk_H)) (q25 : ∀ (v1 : Option Nat) (v4 : Option Nat) (v7 : Int32) (v8 : Int32) (v9 : Int32) (v10 : Int32) (v11 : Int32) (v12 : Int32) (v13 : Int32) (h : gk_H), gk_P gw_I (d + 1) y_M_isLike b_M_isLike 16 (some .boolean) [] (b25 v1 v4 v7 v8 v9 v10 v11 v12 v13 h) 25 [(1, va_rf v1), (4, va_rf v4), (7, .int v7), (8, .int v8), (9, .int v9), (10, .int v10), (11, .int v11), (12, .int v12), (13, .int v13)] [] h) (v1 : Option Nat) (v4 : Option Nat) (v7 : Int32) (v8 : Int32) (v9 : Int32) (v10 : Int32) (v11 : Int32) (v12 : Int32) (v13 : Int32) (v14 : Int32) (s0 : Int32) (h : gk_H) : gk_P gw_I (d + 1) y_M_isLike b_M_isLike 16 (some .boolean) [] (f_M_isLike_b123 b25 v1 v4 v7 v8 v9 v10 v11 v12 v13 v14 s0 h) 123 [(1, va_rf v1), (4, va_rf v4), (7, .int v7), (8, .int v8), (9, .int v9), (10, .int v10), (11, .int v11), (12, .int v12), (13, .int v13), (14, .int v14)] [.int s0] h := by
  unfold f_M_isLike_b123
  refine gk_istore (pc := 123) (L' := [(15, .int s0), (1, va_rf v1), (4, va_rf v4), (7, .int v7), (8, .int v8), (9, .int v9), (10, .int v10), (11, .int v11), (12, .int v12), (13, .int v13), (14, .int v14)]) d_M_isLike_123 (Nat.le_of_ble_eq_true rfl) rfl ?_
  refine gk_iload (pc := 125) 10 d_M_isLike_125 rfl ?_
  refine gk_if_ne (pc := 127) 159 d_M_isLike_127 rfl (fun _ => ?_) (fun _ => ?_)
  · refine gk_iload (pc := 130) 0 d_M_isLike_130 rfl ?_
    refine gk_if_ne (pc := 132) 159 d_M_isLike_132 rfl (fun _ => ?_) (fun _ => ?_)
    · refine gk_aload (pc := 135) 2 d_M_isLike_135 rfl ?_
      refine gk_iload (pc := 137) 7 d_M_isLike_137 rfl ?_
      refine gk_bald (pc := 139) d_M_isLike_139 fun x1 => ?_
      refine gk_bipush (pc := 140) (42 : Int32) d_M_isLike_140 rfl ?_
      refine gk_icmp_ne (pc := 142) 159 d_M_isLike_142 rfl (fun _ => ?_) (fun _ => ?_)
      · refine gk_iload (pc := 145) 7 d_M_isLike_145 rfl ?_
        refine gk_istore (pc := 147) (L' := [(12, .int v11), (15, .int s0), (1, va_rf v1), (4, va_rf v4), (7, .int v7), (8, .int v8), (9, .int v9), (10, .int v10), (11, .int v11), (13, .int v13), (14, .int v14)]) d_M_isLike_147 (Nat.le_of_ble_eq_true rfl) rfl ?_
        refine gk_iload (pc := 149) 7 d_M_isLike_149 rfl ?_
        refine gk_istore (pc := 151) (L' := [(13, .int v10), (12, .int v11), (15, .int s0), (1, va_rf v1), (4, va_rf v4), (7, .int v7), (8, .int v8), (9, .int v9), (10, .int v10), (11, .int v11), (14, .int v14)]) d_M_isLike_151 (Nat.le_of_ble_eq_true rfl) rfl ?_
        refine gk_iincN (pc := 153) 9 (1 : Int32) (L' := fun x2 => [(11, .int x2), (13, .int v10), (12, .int v11), (15, .int s0), (1, va_rf v1), (4, va_rf v4), (7, .int v7), (8, .int v8), (9, .int v9), (10, .int v10), (14, .int v14)]) d_M_isLike_153 rfl rfl (Nat.le_of_ble_eq_true rfl) (fun _ => rfl) fun x2 => ?_
        refine gk_goto (pc := 156) 267 d_M_isLike_156 rfl ?_
        refine gk_weak [4, 5, 6, 7, 8, 9, 0, 2, 1] (L' := [(1, va_rf v1), (4, va_rf v4), (7, .int v7), (8, .int v8), (9, .int v9), (10, .int v10), (11, .int x2), (12, .int v11), (13, .int v10)]) rfl ?_
        exact p_M_isLike_b267 d b25 q25 v1 v4 v7 v8 v9 v10 x2 v11 v10 h
      · refine gk_weak [1, 2, 3, 4, 5, 6, 7, 8, 9, 10, 0] (L' := [(1, va_rf v1), (4, va_rf v4), (7, .int v7), (8, .int v8), (9, .int v9), (10, .int v10), (11, .int v11), (12, .int v12), (13, .int v13), (14, .int v14), (15, .int s0)]) rfl ?_
        exact p_M_isLike_b159 d b25 q25 v1 v4 v7 v8 v9 v10 v11 v12 v13 v14 s0 h
    · refine gk_weak [1, 2, 3, 4, 5, 6, 7, 8, 9, 10, 0] (L' := [(1, va_rf v1), (4, va_rf v4), (7, .int v7), (8, .int v8), (9, .int v9), (10, .int v10), (11, .int v11), (12, .int v12), (13, .int v13), (14, .int v14), (15, .int s0)]) rfl ?_
      exact p_M_isLike_b159 d b25 q25 v1 v4 v7 v8 v9 v10 v11 v12 v13 v14 s0 h
  · refine gk_weak [1, 2, 3, 4, 5, 6, 7, 8, 9, 10, 0] (L' := [(1, va_rf v1), (4, va_rf v4), (7, .int v7), (8, .int v8), (9, .int v9), (10, .int v10), (11, .int v11), (12, .int v12), (13, .int v13), (14, .int v14), (15, .int s0)]) rfl ?_
    exact p_M_isLike_b159 d b25 q25 v1 v4 v7 v8 v9 v10 v11 v12 v13 v14 s0 h
theorem p_M_isLike_b122 (d : Nat) (b25 : Option Nat → Option Nat → Int32 → Int32 → Int32 → Int32 → Int32 → Int32 → Int32 → gk_H → Option (Int32 × gk_H)) (q25 : ∀ (v1 : Option Nat) (v4 : Option Nat) (v7 : Int32) (v8 : Int32) (v9 : Int32) (v10 : Int32) (v11 : Int32) (v12 : Int32) (v13 : Int32) (h : gk_H), gk_P gw_I (d + 1) y_M_isLike b_M_isLike 16 (some .boolean) [] (b25 v1 v4 v7 v8 v9 v10 v11 v12 v13 h) 25 [(1, va_rf v1), (4, va_rf v4), (7, .int v7), (8, .int v8), (9, .int v9), (10, .int v10), (11, .int v11), (12, .int v12), (13, .int v13)] [] h) (v1 : Option Nat) (v4 : Option Nat) (v7 : Int32) (v8 : Int32) (v9 : Int32) (v10 : Int32) (v11 : Int32) (v12 : Int32) (v13 : Int32) (v14 : Int32) (h : gk_H) : gk_P gw_I (d + 1) y_M_isLike b_M_isLike 16 (some .boolean) [] (f_M_isLike_b122 b25 v1 v4 v7 v8 v9 v10 v11 v12 v13 v14 h) 122 [(1, va_rf v1), (4, va_rf v4), (7, .int v7), (8, .int v8), (9, .int v9), (10, .int v10), (11, .int v11), (12, .int v12), (13, .int v13), (14, .int v14)] [] h := by
  unfold f_M_isLike_b122
  refine gk_iconst (pc := 122) (0 : Int32) d_M_isLike_122 rfl ?_
  exact p_M_isLike_b123 d b25 q25 v1 v4 v7 v8 v9 v10 v11 v12 v13 v14 (0 : Int32) h
theorem p_M_isLike_b118 (d : Nat) (b25 : Option Nat → Option Nat → Int32 → Int32 → Int32 → Int32 → Int32 → Int32 → Int32 → gk_H → Option (Int32 × gk_H)) (q25 : ∀ (v1 : Option Nat) (v4 : Option Nat) (v7 : Int32) (v8 : Int32) (v9 : Int32) (v10 : Int32) (v11 : Int32) (v12 : Int32) (v13 : Int32) (h : gk_H), gk_P gw_I (d + 1) y_M_isLike b_M_isLike 16 (some .boolean) [] (b25 v1 v4 v7 v8 v9 v10 v11 v12 v13 h) 25 [(1, va_rf v1), (4, va_rf v4), (7, .int v7), (8, .int v8), (9, .int v9), (10, .int v10), (11, .int v11), (12, .int v12), (13, .int v13)] [] h) (v1 : Option Nat) (v4 : Option Nat) (v7 : Int32) (v8 : Int32) (v9 : Int32) (v10 : Int32) (v11 : Int32) (v12 : Int32) (v13 : Int32) (v14 : Int32) (h : gk_H) : gk_P gw_I (d + 1) y_M_isLike b_M_isLike 16 (some .boolean) [] (f_M_isLike_b118 b25 v1 v4 v7 v8 v9 v10 v11 v12 v13 v14 h) 118 [(1, va_rf v1), (4, va_rf v4), (7, .int v7), (8, .int v8), (9, .int v9), (10, .int v10), (11, .int v11), (12, .int v12), (13, .int v13), (14, .int v14)] [] h := by
  unfold f_M_isLike_b118
  refine gk_iconst (pc := 118) (1 : Int32) d_M_isLike_118 rfl ?_
  refine gk_goto (pc := 119) 123 d_M_isLike_119 rfl ?_
  exact p_M_isLike_b123 d b25 q25 v1 v4 v7 v8 v9 v10 v11 v12 v13 v14 (1 : Int32) h
theorem p_M_isLike_b58 (d : Nat) (b25 : Option Nat → Option Nat → Int32 → Int32 → Int32 → Int32 → Int32 → Int32 → Int32 → gk_H → Option (Int32 × gk_H)) (q25 : ∀ (v1 : Option Nat) (v4 : Option Nat) (v7 : Int32) (v8 : Int32) (v9 : Int32) (v10 : Int32) (v11 : Int32) (v12 : Int32) (v13 : Int32) (h : gk_H), gk_P gw_I (d + 1) y_M_isLike b_M_isLike 16 (some .boolean) [] (b25 v1 v4 v7 v8 v9 v10 v11 v12 v13 h) 25 [(1, va_rf v1), (4, va_rf v4), (7, .int v7), (8, .int v8), (9, .int v9), (10, .int v10), (11, .int v11), (12, .int v12), (13, .int v13)] [] h) (v1 : Option Nat) (v4 : Option Nat) (v7 : Int32) (v8 : Int32) (v9 : Int32) (v10 : Int32) (v11 : Int32) (v12 : Int32) (v13 : Int32) (v14 : Int32) (h : gk_H) : gk_P gw_I (d + 1) y_M_isLike b_M_isLike 16 (some .boolean) [] (f_M_isLike_b58 b25 v1 v4 v7 v8 v9 v10 v11 v12 v13 v14 h) 58 [(1, va_rf v1), (4, va_rf v4), (7, .int v7), (8, .int v8), (9, .int v9), (10, .int v10), (11, .int v11), (12, .int v12), (13, .int v13), (14, .int v14)] [] h := by
  unfold f_M_isLike_b58
  refine gk_iload (pc := 58) 9 d_M_isLike_58 rfl ?_
  refine gk_if_ne (pc := 60) 122 d_M_isLike_60 rfl (fun _ => ?_) (fun _ => ?_)
  · refine gk_aload (pc := 63) 1 d_M_isLike_63 rfl ?_
    refine gk_iload (pc := 65) 6 d_M_isLike_65 rfl ?_
    refine gk_bald (pc := 67) d_M_isLike_67 fun x1 => ?_
    refine gk_bipush (pc := 68) (126 : Int32) d_M_isLike_68 rfl ?_
    refine gk_icmp_ne (pc := 70) 122 d_M_isLike_70 rfl (fun _ => ?_) (fun _ => ?_)
    · refine gk_iload (pc := 73) 6 d_M_isLike_73 rfl ?_
      refine gk_iconst (pc := 75) (1 : Int32) d_M_isLike_75 rfl ?_
      refine gk_iadd (pc := 76) d_M_isLike_76 ?_
      refine gk_iload (pc := 77) 4 d_M_isLike_77 rfl ?_
      refine gk_icmp_ge (pc := 79) 122 d_M_isLike_79 rfl (fun _ => ?_) (fun _ => ?_)
      · exact p_M_isLike_b122 d b25 q25 v1 v4 v7 v8 v9 v10 v11 v12 v13 v14 h
      · refine gk_aload (pc := 82) 1 d_M_isLike_82 rfl ?_
        refine gk_iload (pc := 84) 6 d_M_isLike_84 rfl ?_
        refine gk_iconst (pc := 86) (1 : Int32) d_M_isLike_86 rfl ?_
        refine gk_iadd (pc := 87) d_M_isLike_87 ?_
        refine gk_bald (pc := 88) d_M_isLike_88 fun x2 => ?_
        refine gk_bipush (pc := 89) (63 : Int32) d_M_isLike_89 rfl ?_
        refine gk_icmp_eq (pc := 91) 118 d_M_isLike_91 rfl (fun _ => ?_) (fun _ => ?_)
        · exact p_M_isLike_b118 d b25 q25 v1 v4 v7 v8 v9 v10 v11 v12 v13 v14 h
        · refine gk_aload (pc := 94) 1 d_M_isLike_94 rfl ?_
          refine gk_iload (pc := 96) 6 d_M_isLike_96 rfl ?_
          refine gk_iconst (pc := 98) (1 : Int32) d_M_isLike_98 rfl ?_
          refine gk_iadd (pc := 99) d_M_isLike_99 ?_
          refine gk_bald (pc := 100) d_M_isLike_100 fun x3 => ?_
          refine gk_bipush (pc := 101) (42 : Int32) d_M_isLike_101 rfl ?_
          refine gk_icmp_eq (pc := 103) 118 d_M_isLike_103 rfl (fun _ => ?_) (fun _ => ?_)
          · exact p_M_isLike_b118 d b25 q25 v1 v4 v7 v8 v9 v10 v11 v12 v13 v14 h
          · refine gk_aload (pc := 106) 1 d_M_isLike_106 rfl ?_
            refine gk_iload (pc := 108) 6 d_M_isLike_108 rfl ?_
            refine gk_iconst (pc := 110) (1 : Int32) d_M_isLike_110 rfl ?_
            refine gk_iadd (pc := 111) d_M_isLike_111 ?_
            refine gk_bald (pc := 112) d_M_isLike_112 fun x4 => ?_
            refine gk_bipush (pc := 113) (126 : Int32) d_M_isLike_113 rfl ?_
            refine gk_icmp_ne (pc := 115) 122 d_M_isLike_115 rfl (fun _ => ?_) (fun _ => ?_)
            · exact p_M_isLike_b118 d b25 q25 v1 v4 v7 v8 v9 v10 v11 v12 v13 v14 h
            · exact p_M_isLike_b122 d b25 q25 v1 v4 v7 v8 v9 v10 v11 v12 v13 v14 h
    · exact p_M_isLike_b122 d b25 q25 v1 v4 v7 v8 v9 v10 v11 v12 v13 v14 h
  · exact p_M_isLike_b122 d b25 q25 v1 v4 v7 v8 v9 v10 v11 v12 v13 v14 h
theorem p_M_isLike_b56 (d : Nat)   (h : gk_H) : gk_P gw_I (d + 1) y_M_isLike b_M_isLike 16 (some .boolean) [] (f_M_isLike_b56   h) 56 [] [] h := by
  unfold f_M_isLike_b56
  refine gk_iconst (pc := 56) (1 : Int32) d_M_isLike_56 rfl ?_
  exact gk_zret (pc := 57) rfl d_M_isLike_57 rfl
theorem p_M_isLike_b37 (d : Nat) (b25 : Option Nat → Option Nat → Int32 → Int32 → Int32 → Int32 → Int32 → Int32 → Int32 → gk_H → Option (Int32 × gk_H)) (q25 : ∀ (v1 : Option Nat) (v4 : Option Nat) (v7 : Int32) (v8 : Int32) (v9 : Int32) (v10 : Int32) (v11 : Int32) (v12 : Int32) (v13 : Int32) (h : gk_H), gk_P gw_I (d + 1) y_M_isLike b_M_isLike 16 (some .boolean) [] (b25 v1 v4 v7 v8 v9 v10 v11 v12 v13 h) 25 [(1, va_rf v1), (4, va_rf v4), (7, .int v7), (8, .int v8), (9, .int v9), (10, .int v10), (11, .int v11), (12, .int v12), (13, .int v13)] [] h) (v1 : Option Nat) (v4 : Option Nat) (v7 : Int32) (v8 : Int32) (v9 : Int32) (v10 : Int32) (v11 : Int32) (v12 : Int32) (v13 : Int32) (s0 : Int32) (h : gk_H) : gk_P gw_I (d + 1) y_M_isLike b_M_isLike 16 (some .boolean) [] (f_M_isLike_b37 b25 v1 v4 v7 v8 v9 v10 v11 v12 v13 s0 h) 37 [(1, va_rf v1), (4, va_rf v4), (7, .int v7), (8, .int v8), (9, .int v9), (10, .int v10), (11, .int v11), (12, .int v12), (13, .int v13)] [.int s0] h := by
  unfold f_M_isLike_b37
  refine gk_istore (pc := 37) (L' := [(14, .int s0), (1, va_rf v1), (4, va_rf v4), (7, .int v7), (8, .int v8), (9, .int v9), (10, .int v10), (11, .int v11), (12, .int v12), (13, .int v13)]) d_M_isLike_37 (Nat.le_of_ble_eq_true rfl) rfl ?_
  refine gk_iload (pc := 39) 0 d_M_isLike_39 rfl ?_
  refine gk_if_eq (pc := 41) 58 d_M_isLike_41 rfl (fun _ => ?_) (fun _ => ?_)
  · refine gk_weak [1, 2, 3, 4, 5, 6, 7, 8, 9, 0] (L' := [(1, va_rf v1), (4, va_rf v4), (7, .int v7), (8, .int v8), (9, .int v9), (10, .int v10), (11, .int v11), (12, .int v12), (13, .int v13), (14, .int s0)]) rfl ?_
    exact p_M_isLike_b58 d b25 q25 v1 v4 v7 v8 v9 v10 v11 v12 v13 s0 h
  · refine gk_iload (pc := 44) 3 d_M_isLike_44 rfl ?_
    refine gk_if_ne (pc := 46) 56 d_M_isLike_46 rfl (fun _ => ?_) (fun _ => ?_)
    · refine gk_iload (pc := 49) 6 d_M_isLike_49 rfl ?_
      refine gk_iload (pc := 51) 4 d_M_isLike_51 rfl ?_
      refine gk_icmp_ne (pc := 53) 58 d_M_isLike_53 rfl (fun _ => ?_) (fun _ => ?_)
      · refine gk_weak [] (L' := []) rfl ?_
        exact p_M_isLike_b56 d h
      · refine gk_weak [1, 2, 3, 4, 5, 6, 7, 8, 9, 0] (L' := [(1, va_rf v1), (4, va_rf v4), (7, .int v7), (8, .int v8), (9, .int v9), (10, .int v10), (11, .int v11), (12, .int v12), (13, .int v13), (14, .int s0)]) rfl ?_
        exact p_M_isLike_b58 d b25 q25 v1 v4 v7 v8 v9 v10 v11 v12 v13 s0 h
    · refine gk_weak [] (L' := []) rfl ?_
      exact p_M_isLike_b56 d h
theorem p_M_isLike_b25 (d : Nat)  : ∀ (fu : Nat) (v1 : Option Nat) (v4 : Option Nat) (v7 : Int32) (v8 : Int32) (v9 : Int32) (v10 : Int32) (v11 : Int32) (v12 : Int32) (v13 : Int32) (h : gk_H), gk_P gw_I (d + 1) y_M_isLike b_M_isLike 16 (some .boolean) [] (f_M_isLike_b25  fu v1 v4 v7 v8 v9 v10 v11 v12 v13 h) 25 [(1, va_rf v1), (4, va_rf v4), (7, .int v7), (8, .int v8), (9, .int v9), (10, .int v10), (11, .int v11), (12, .int v12), (13, .int v13)] [] h := by
  intro fu
  induction fu with
  | zero => intros; exact gk_none
  | succ fu q25 =>
    intro v1 v4 v7 v8 v9 v10 v11 v12 v13 h
    rw [f_M_isLike_b25]
    refine gk_iload (pc := 25) 6 d_M_isLike_25 rfl ?_
    refine gk_iload (pc := 27) 4 d_M_isLike_27 rfl ?_
    refine gk_icmp_ne (pc := 29) 36 d_M_isLike_29 rfl (fun _ => ?_) (fun _ => ?_)
    · refine gk_iconst (pc := 32) (1 : Int32) d_M_isLike_32 rfl ?_
      refine gk_goto (pc := 33) 37 d_M_isLike_33 rfl ?_
      exact p_M_isLike_b37 d (f_M_isLike_b25 fu) q25 v1 v4 v7 v8 v9 v10 v11 v12 v13 (1 : Int32) h
    · refine gk_iconst (pc := 36) (0 : Int32) d_M_isLike_36 rfl ?_
      exact p_M_isLike_b37 d (f_M_isLike_b25 fu) q25 v1 v4 v7 v8 v9 v10 v11 v12 v13 (0 : Int32) h
theorem w_M_isLike (d : Nat) (a0 : Option Nat) (a1 : Option Nat) (a2 : Int32) (a3 : Int32) (a4 : Option Nat) (a5 : Int32) (a6 : Int32) (a7 : Int32) (h : gk_H) : gk_P gw_I (d + 1) y_M_isLike b_M_isLike 16 (some .boolean) [] (f_M_isLike a0 a1 a2 a3 a4 a5 a6 a7 h) 0 [(0, va_rf a0), (1, va_rf a1), (2, .int a2), (3, .int a3), (4, va_rf a4), (5, .int a5), (6, .int a6), (7, .int a7)] [] h := by
  unfold f_M_isLike
  refine gk_iload_n (pc := 0) 2 d_M_isLike_0 rfl ?_
  refine gk_iload_n (pc := 1) 3 d_M_isLike_1 rfl ?_
  refine gk_iadd (pc := 2) d_M_isLike_2 ?_
  refine gk_topI (pc := 3) fun x1 => ?_
  refine gk_istore (pc := 3) (L' := [(8, .int x1), (0, va_rf a0), (1, va_rf a1), (2, .int a2), (3, .int a3), (4, va_rf a4), (5, .int a5), (6, .int a6), (7, .int a7)]) d_M_isLike_3 (Nat.le_of_ble_eq_true rfl) rfl ?_
  refine gk_iload (pc := 5) 6 d_M_isLike_5 rfl ?_
  refine gk_iload (pc := 7) 7 d_M_isLike_7 rfl ?_
  refine gk_iadd (pc := 9) d_M_isLike_9 ?_
  refine gk_topI (pc := 10) fun x2 => ?_
  refine gk_istore (pc := 10) (L' := [(9, .int x2), (8, .int x1), (0, va_rf a0), (1, va_rf a1), (2, .int a2), (3, .int a3), (4, va_rf a4), (5, .int a5), (6, .int a6), (7, .int a7)]) d_M_isLike_10 (Nat.le_of_ble_eq_true rfl) rfl ?_
  refine gk_iload_n (pc := 12) 4 d_M_isLike_12 rfl ?_
  refine gk_istore (pc := 13) (L' := [(10, .int a2), (9, .int x2), (8, .int x1), (0, va_rf a0), (1, va_rf a1), (2, .int a2), (3, .int a3), (4, va_rf a4), (5, .int a5), (6, .int a6), (7, .int a7)]) d_M_isLike_13 (Nat.le_of_ble_eq_true rfl) rfl ?_
  refine gk_iload (pc := 15) 8 d_M_isLike_15 rfl ?_
  refine gk_istore (pc := 17) (L' := [(11, .int a5), (10, .int a2), (9, .int x2), (8, .int x1), (0, va_rf a0), (1, va_rf a1), (2, .int a2), (3, .int a3), (4, va_rf a4), (5, .int a5), (6, .int a6), (7, .int a7)]) d_M_isLike_17 (Nat.le_of_ble_eq_true rfl) rfl ?_
  refine gk_iconst (pc := 19) (-1 : Int32) d_M_isLike_19 rfl ?_
  refine gk_istore (pc := 20) (L' := [(12, .int (-1 : Int32)), (11, .int a5), (10, .int a2), (9, .int x2), (8, .int x1), (0, va_rf a0), (1, va_rf a1), (2, .int a2), (3, .int a3), (4, va_rf a4), (5, .int a5), (6, .int a6), (7, .int a7)]) d_M_isLike_20 (Nat.le_of_ble_eq_true rfl) rfl ?_
  refine gk_iload_n (pc := 22) 7 d_M_isLike_22 rfl ?_
  refine gk_istore (pc := 23) (L' := [(13, .int a2), (12, .int (-1 : Int32)), (11, .int a5), (10, .int a2), (9, .int x2), (8, .int x1), (0, va_rf a0), (1, va_rf a1), (2, .int a2), (3, .int a3), (4, va_rf a4), (5, .int a5), (6, .int a6), (7, .int a7)]) d_M_isLike_23 (Nat.le_of_ble_eq_true rfl) rfl ?_
  refine gk_weak [7, 10, 13, 5, 4, 3, 2, 1, 0] (L' := [(1, va_rf a1), (4, va_rf a4), (7, .int a7), (8, .int x1), (9, .int x2), (10, .int a2), (11, .int a5), (12, .int (-1 : Int32)), (13, .int a2)]) rfl ?_
  exact p_M_isLike_b25 d gk_F a1 a4 a7 x1 x2 a2 a5 (-1 : Int32) a2 h
theorem p_M_isLike (d : Nat) (a0 : Option Nat) (a1 : Option Nat) (a2 : Int32) (a3 : Int32) (a4 : Option Nat) (a5 : Int32) (a6 : Int32) (a7 : Int32) (h : gk_H) : ∀ r h1, f_M_isLike a0 a1 a2 a3 a4 a5 a6 a7 h = some (r, h1) → gk_M (d + 1) y_M_isLike b_M_isLike 16 (some .boolean) [va_rf a0, va_rf a1, .int a2, .int a3, va_rf a4, .int a5, .int a6, .int a7] h (.inl (gv_I r)) h1 :=
  fun r h1 e => gk_M_of2 (by decide +kernel) (by simp [lv_args, gk_cat_rf, gk_catI, gk_catJ, gk_catD, gv_V, gv_I, gv_J, gv_D, gv_R]) (by simp [lg_sl, gk_cat_rf, gk_catI, gk_catJ, gk_catD, gv_V, gv_I, gv_J, gv_D, gv_R]) (w_M_isLike d a0 a1 a2 a3 a4 a5 a6 a7 h r h1 e)
theorem d_M_meets_0 : decode b_M_meets 0 = .ok (.aload_n 0, 1) := by decide +kernel
theorem d_M_meets_1 : decode b_M_meets 1 = .ok (.getfield 23, 3) := by decide +kernel
theorem d_M_meets_4 : decode b_M_meets 4 = .ok (.iload_n 1, 1) := by decide +kernel
theorem d_M_meets_5 : decode b_M_meets 5 = .ok (.iaload, 1) := by decide +kernel
theorem d_M_meets_6 : decode b_M_meets 6 = .ok (.iconst 4, 1) := by decide +kernel
theorem d_M_meets_7 : decode b_M_meets 7 = .ok (.if_icmp .ne 5, 3) := by decide +kernel
theorem d_M_meets_10 : decode b_M_meets 10 = .ok (.iconst 0, 1) := by decide +kernel
theorem d_M_meets_11 : decode b_M_meets 11 = .ok (.ireturn, 1) := by decide +kernel
theorem d_M_meets_12 : decode b_M_meets 12 = .ok (.aload_n 0, 1) := by decide +kernel
theorem d_M_meets_13 : decode b_M_meets 13 = .ok (.getfield 303, 3) := by decide +kernel
theorem d_M_meets_16 : decode b_M_meets 16 = .ok (.iconst 1, 1) := by decide +kernel
theorem d_M_meets_17 : decode b_M_meets 17 = .ok (.if_icmp .ne 50, 3) := by decide +kernel
theorem d_M_meets_20 : decode b_M_meets 20 = .ok (.aload_n 0, 1) := by decide +kernel
theorem d_M_meets_21 : decode b_M_meets 21 = .ok (.getfield 23, 3) := by decide +kernel
theorem d_M_meets_24 : decode b_M_meets 24 = .ok (.iload_n 1, 1) := by decide +kernel
theorem d_M_meets_25 : decode b_M_meets 25 = .ok (.iaload, 1) := by decide +kernel
theorem d_M_meets_26 : decode b_M_meets 26 = .ok (.iconst 1, 1) := by decide +kernel
theorem d_M_meets_27 : decode b_M_meets 27 = .ok (.if_icmp .ne 26, 3) := by decide +kernel
theorem d_M_meets_30 : decode b_M_meets 30 = .ok (.aload_n 0, 1) := by decide +kernel
theorem d_M_meets_31 : decode b_M_meets 31 = .ok (.getfield 300, 3) := by decide +kernel
theorem d_M_meets_34 : decode b_M_meets 34 = .ok (.aload_n 0, 1) := by decide +kernel
theorem d_M_meets_35 : decode b_M_meets 35 = .ok (.getfield 26, 3) := by decide +kernel
theorem d_M_meets_38 : decode b_M_meets 38 = .ok (.iload_n 1, 1) := by decide +kernel
theorem d_M_meets_39 : decode b_M_meets 39 = .ok (.daload, 1) := by decide +kernel
theorem d_M_meets_40 : decode b_M_meets 40 = .ok (.aload_n 0, 1) := by decide +kernel
theorem d_M_meets_41 : decode b_M_meets 41 = .ok (.getfield 306, 3) := by decide +kernel
theorem d_M_meets_44 : decode b_M_meets 44 = .ok (.invokestatic 179, 3) := by decide +kernel
theorem d_M_meets_47 : decode b_M_meets 47 = .ok (.invokestatic 189, 3) := by decide +kernel
theorem d_M_meets_50 : decode b_M_meets 50 = .ok (.goto 16, 3) := by decide +kernel
theorem d_M_meets_53 : decode b_M_meets 53 = .ok (.aload_n 0, 1) := by decide +kernel
theorem d_M_meets_54 : decode b_M_meets 54 = .ok (.getfield 300, 3) := by decide +kernel
theorem d_M_meets_57 : decode b_M_meets 57 = .ok (.iconst 1, 1) := by decide +kernel
theorem d_M_meets_58 : decode b_M_meets 58 = .ok (.if_icmp .ne 7, 3) := by decide +kernel
theorem d_M_meets_61 : decode b_M_meets 61 = .ok (.iconst 1, 1) := by decide +kernel
theorem d_M_meets_62 : decode b_M_meets 62 = .ok (.goto 4, 3) := by decide +kernel
theorem d_M_meets_65 : decode b_M_meets 65 = .ok (.iconst 0, 1) := by decide +kernel
theorem d_M_meets_66 : decode b_M_meets 66 = .ok (.ireturn, 1) := by decide +kernel
theorem d_M_meets_67 : decode b_M_meets 67 = .ok (.aload_n 0, 1) := by decide +kernel
theorem d_M_meets_68 : decode b_M_meets 68 = .ok (.getfield 303, 3) := by decide +kernel
theorem d_M_meets_71 : decode b_M_meets 71 = .ok (.iconst 3, 1) := by decide +kernel
theorem d_M_meets_72 : decode b_M_meets 72 = .ok (.if_icmp .ne 33, 3) := by decide +kernel
theorem d_M_meets_75 : decode b_M_meets 75 = .ok (.aload_n 0, 1) := by decide +kernel
theorem d_M_meets_76 : decode b_M_meets 76 = .ok (.getfield 23, 3) := by decide +kernel
theorem d_M_meets_79 : decode b_M_meets 79 = .ok (.iload_n 1, 1) := by decide +kernel
theorem d_M_meets_80 : decode b_M_meets 80 = .ok (.iaload, 1) := by decide +kernel
theorem d_M_meets_81 : decode b_M_meets 81 = .ok (.iconst 3, 1) := by decide +kernel
theorem d_M_meets_82 : decode b_M_meets 82 = .ok (.if_icmp .ne 21, 3) := by decide +kernel
theorem d_M_meets_85 : decode b_M_meets 85 = .ok (.aload_n 0, 1) := by decide +kernel
theorem d_M_meets_86 : decode b_M_meets 86 = .ok (.getfield 26, 3) := by decide +kernel
theorem d_M_meets_89 : decode b_M_meets 89 = .ok (.iload_n 1, 1) := by decide +kernel
theorem d_M_meets_90 : decode b_M_meets 90 = .ok (.daload, 1) := by decide +kernel
theorem d_M_meets_91 : decode b_M_meets 91 = .ok (.aload_n 0, 1) := by decide +kernel
theorem d_M_meets_92 : decode b_M_meets 92 = .ok (.getfield 306, 3) := by decide +kernel
theorem d_M_meets_95 : decode b_M_meets 95 = .ok (.dcmp .l, 1) := by decide +kernel
theorem d_M_meets_96 : decode b_M_meets 96 = .ok (.ifCond .ne 7, 3) := by decide +kernel
theorem d_M_meets_99 : decode b_M_meets 99 = .ok (.iconst 1, 1) := by decide +kernel
theorem d_M_meets_100 : decode b_M_meets 100 = .ok (.goto 4, 3) := by decide +kernel
theorem d_M_meets_103 : decode b_M_meets 103 = .ok (.iconst 0, 1) := by decide +kernel
theorem d_M_meets_104 : decode b_M_meets 104 = .ok (.ireturn, 1) := by decide +kernel
theorem d_M_meets_105 : decode b_M_meets 105 = .ok (.aload_n 0, 1) := by decide +kernel
theorem d_M_meets_106 : decode b_M_meets 106 = .ok (.getfield 300, 3) := by decide +kernel
theorem d_M_meets_109 : decode b_M_meets 109 = .ok (.iconst 1, 1) := by decide +kernel
theorem d_M_meets_110 : decode b_M_meets 110 = .ok (.if_icmp .le 60, 3) := by decide +kernel
theorem d_M_meets_113 : decode b_M_meets 113 = .ok (.aload_n 0, 1) := by decide +kernel
theorem d_M_meets_114 : decode b_M_meets 114 = .ok (.getfield 23, 3) := by decide +kernel
theorem d_M_meets_117 : decode b_M_meets 117 = .ok (.iload_n 1, 1) := by decide +kernel
theorem d_M_meets_118 : decode b_M_meets 118 = .ok (.iaload, 1) := by decide +kernel
theorem d_M_meets_119 : decode b_M_meets 119 = .ok (.iconst 2, 1) := by decide +kernel
theorem d_M_meets_120 : decode b_M_meets 120 = .ok (.if_icmp .ne 48, 3) := by decide +kernel
theorem d_M_meets_123 : decode b_M_meets 123 = .ok (.aload_n 0, 1) := by decide +kernel
theorem d_M_meets_124 : decode b_M_meets 124 = .ok (.getfield 300, 3) := by decide +kernel
theorem d_M_meets_127 : decode b_M_meets 127 = .ok (.aload_n 0, 1) := by decide +kernel
theorem d_M_meets_128 : decode b_M_meets 128 = .ok (.aload_n 0, 1) := by decide +kernel
theorem d_M_meets_129 : decode b_M_meets 129 = .ok (.getfield 34, 3) := by decide +kernel
theorem d_M_meets_132 : decode b_M_meets 132 = .ok (.sipush 256, 3) := by decide +kernel
theorem d_M_meets_135 : decode b_M_meets 135 = .ok (.iload_n 1, 1) := by decide +kernel
theorem d_M_meets_136 : decode b_M_meets 136 = .ok (.imul, 1) := by decide +kernel
theorem d_M_meets_137 : decode b_M_meets 137 = .ok (.aload_n 0, 1) := by decide +kernel
theorem d_M_meets_138 : decode b_M_meets 138 = .ok (.getfield 30, 3) := by decide +kernel
theorem d_M_meets_141 : decode b_M_meets 141 = .ok (.iload_n 1, 1) := by decide +kernel
theorem d_M_meets_142 : decode b_M_meets 142 = .ok (.iaload, 1) := by decide +kernel
theorem d_M_meets_143 : decode b_M_meets 143 = .ok (.aload_n 0, 1) := by decide +kernel
theorem d_M_meets_144 : decode b_M_meets 144 = .ok (.getfield 43, 3) := by decide +kernel
theorem d_M_meets_147 : decode b_M_meets 147 = .ok (.aload_n 0, 1) := by decide +kernel
theorem d_M_meets_148 : decode b_M_meets 148 = .ok (.getfield 309, 3) := by decide +kernel
theorem d_M_meets_151 : decode b_M_meets 151 = .ok (.aload_n 0, 1) := by decide +kernel
theorem d_M_meets_152 : decode b_M_meets 152 = .ok (.getfield 312, 3) := by decide +kernel
theorem d_M_meets_155 : decode b_M_meets 155 = .ok (.invokevirtual 175, 3) := by decide +kernel
theorem d_M_meets_158 : decode b_M_meets 158 = .ok (.invokestatic 189, 3) := by decide +kernel
theorem d_M_meets_161 : decode b_M_meets 161 = .ok (.ifCond .eq 7, 3) := by decide +kernel
theorem d_M_meets_164 : decode b_M_meets 164 = .ok (.iconst 1, 1) := by decide +kernel
theorem d_M_meets_165 : decode b_M_meets 165 = .ok (.goto 4, 3) := by decide +kernel
theorem d_M_meets_168 : decode b_M_meets 168 = .ok (.iconst 0, 1) := by decide +kernel
theorem d_M_meets_169 : decode b_M_meets 169 = .ok (.ireturn, 1) := by decide +kernel
theorem d_M_meets_170 : decode b_M_meets 170 = .ok (.aload_n 0, 1) := by decide +kernel
theorem d_M_meets_171 : decode b_M_meets 171 = .ok (.getfield 23, 3) := by decide +kernel
theorem d_M_meets_174 : decode b_M_meets 174 = .ok (.iload_n 1, 1) := by decide +kernel
theorem d_M_meets_175 : decode b_M_meets 175 = .ok (.iaload, 1) := by decide +kernel
theorem d_M_meets_176 : decode b_M_meets 176 = .ok (.iconst 2, 1) := by decide +kernel
theorem d_M_meets_177 : decode b_M_meets 177 = .ok (.if_icmp .ne 42, 3) := by decide +kernel
theorem d_M_meets_180 : decode b_M_meets 180 = .ok (.aload_n 0, 1) := by decide +kernel
theorem d_M_meets_181 : decode b_M_meets 181 = .ok (.aload_n 0, 1) := by decide +kernel
theorem d_M_meets_182 : decode b_M_meets 182 = .ok (.getfield 34, 3) := by decide +kernel
theorem d_M_meets_185 : decode b_M_meets 185 = .ok (.sipush 256, 3) := by decide +kernel
theorem d_M_meets_188 : decode b_M_meets 188 = .ok (.iload_n 1, 1) := by decide +kernel
theorem d_M_meets_189 : decode b_M_meets 189 = .ok (.imul, 1) := by decide +kernel
theorem d_M_meets_190 : decode b_M_meets 190 = .ok (.aload_n 0, 1) := by decide +kernel
theorem d_M_meets_191 : decode b_M_meets 191 = .ok (.getfield 30, 3) := by decide +kernel
theorem d_M_meets_194 : decode b_M_meets 194 = .ok (.iload_n 1, 1) := by decide +kernel
theorem d_M_meets_195 : decode b_M_meets 195 = .ok (.iaload, 1) := by decide +kernel
theorem d_M_meets_196 : decode b_M_meets 196 = .ok (.aload_n 0, 1) := by decide +kernel
theorem d_M_meets_197 : decode b_M_meets 197 = .ok (.getfield 43, 3) := by decide +kernel
theorem d_M_meets_200 : decode b_M_meets 200 = .ok (.aload_n 0, 1) := by decide +kernel
theorem d_M_meets_201 : decode b_M_meets 201 = .ok (.getfield 309, 3) := by decide +kernel
theorem d_M_meets_204 : decode b_M_meets 204 = .ok (.aload_n 0, 1) := by decide +kernel
theorem d_M_meets_205 : decode b_M_meets 205 = .ok (.getfield 312, 3) := by decide +kernel
theorem d_M_meets_208 : decode b_M_meets 208 = .ok (.iconst 0, 1) := by decide +kernel
theorem d_M_meets_209 : decode b_M_meets 209 = .ok (.invokevirtual 315, 3) := by decide +kernel
theorem d_M_meets_212 : decode b_M_meets 212 = .ok (.ifCond .eq 7, 3) := by decide +kernel
theorem d_M_meets_215 : decode b_M_meets 215 = .ok (.iconst 1, 1) := by decide +kernel
theorem d_M_meets_216 : decode b_M_meets 216 = .ok (.goto 4, 3) := by decide +kernel
theorem d_M_meets_219 : decode b_M_meets 219 = .ok (.iconst 0, 1) := by decide +kernel
theorem d_M_meets_220 : decode b_M_meets 220 = .ok (.istore_n 2, 1) := by decide +kernel
theorem d_M_meets_221 : decode b_M_meets 221 = .ok (.aload_n 0, 1) := by decide +kernel
theorem d_M_meets_222 : decode b_M_meets 222 = .ok (.getfield 300, 3) := by decide +kernel
theorem d_M_meets_225 : decode b_M_meets 225 = .ok (.iconst 1, 1) := by decide +kernel
theorem d_M_meets_226 : decode b_M_meets 226 = .ok (.if_icmp .ne 15, 3) := by decide +kernel
theorem d_M_meets_229 : decode b_M_meets 229 = .ok (.iload_n 2, 1) := by decide +kernel
theorem d_M_meets_230 : decode b_M_meets 230 = .ok (.ifCond .ne 7, 3) := by decide +kernel
theorem d_M_meets_233 : decode b_M_meets 233 = .ok (.iconst 1, 1) := by decide +kernel
theorem d_M_meets_234 : decode b_M_meets 234 = .ok (.goto 32, 3) := by decide +kernel
theorem d_M_meets_237 : decode b_M_meets 237 = .ok (.iconst 0, 1) := by decide +kernel
theorem d_M_meets_238 : decode b_M_meets 238 = .ok (.goto 28, 3) := by decide +kernel
theorem d_M_meets_241 : decode b_M_meets 241 = .ok (.iload_n 2, 1) := by decide +kernel
theorem d_M_meets_242 : decode b_M_meets 242 = .ok (.ifCond .ne 19, 3) := by decide +kernel
theorem d_M_meets_245 : decode b_M_meets 245 = .ok (.aload_n 0, 1) := by decide +kernel
theorem d_M_meets_246 : decode b_M_meets 246 = .ok (.getfield 312, 3) := by decide +kernel
theorem d_M_meets_249 : decode b_M_meets 249 = .ok (.ifCond .ne 16, 3) := by decide +kernel
theorem d_M_meets_252 : decode b_M_meets 252 = .ok (.aload_n 0, 1) := by decide +kernel
theorem d_M_meets_253 : decode b_M_meets 253 = .ok (.getfield 23, 3) := by decide +kernel
theorem d_M_meets_256 : decode b_M_meets 256 = .ok (.iload_n 1, 1) := by decide +kernel
theorem d_M_meets_257 : decode b_M_meets 257 = .ok (.iaload, 1) := by decide +kernel
theorem d_M_meets_258 : decode b_M_meets 258 = .ok (.ifCond .ne 7, 3) := by decide +kernel
theorem d_M_meets_261 : decode b_M_meets 261 = .ok (.iconst 1, 1) := by decide +kernel
theorem d_M_meets_262 : decode b_M_meets 262 = .ok (.goto 4, 3) := by decide +kernel
theorem d_M_meets_265 : decode b_M_meets 265 = .ok (.iconst 0, 1) := by decide +kernel
theorem d_M_meets_266 : decode b_M_meets 266 = .ok (.ireturn, 1) := by decide +kernel
theorem p_M_meets_b266 (d : Nat)  (s0 : Int32) (h : gk_H) : gk_P gw_I (d + 2) y_M_meets b_M_meets 3 (some .boolean) [] (f_M_meets_b266  s0 h) 266 [] [.int s0] h := by
  unfold f_M_meets_b266
  exact gk_zret (pc := 266) rfl d_M_meets_266 rfl
theorem p_M_meets_b261 (d : Nat)   (h : gk_H) : gk_P gw_I (d + 2) y_M_meets b_M_meets 3 (some .boolean) [] (f_M_meets_b261   h) 261 [] [] h := by
  unfold f_M_meets_b261
  refine gk_iconst (pc := 261) (1 : Int32) d_M_meets_261 rfl ?_
  refine gk_goto (pc := 262) 266 d_M_meets_262 rfl ?_
  exact p_M_meets_b266 d (1 : Int32) h
theorem p_M_meets_b265 (d : Nat)   (h : gk_H) : gk_P gw_I (d + 2) y_M_meets b_M_meets 3 (some .boolean) [] (f_M_meets_b265   h) 265 [] [] h := by
  unfold f_M_meets_b265
  refine gk_iconst (pc := 265) (0 : Int32) d_M_meets_265 rfl ?_
  exact p_M_meets_b266 d (0 : Int32) h
theorem p_M_meets_b220 (d : Nat)  (v0 : Option Nat) (v1 : Int32) (s0 : Int32) (h : gk_H) : gk_P gw_I (d + 2) y_M_meets b_M_meets 3 (some .boolean) [] (f_M_meets_b220  v0 v1 s0 h) 220 [(0, va_rf v0), (1, .int v1)] [.int s0] h := by
  unfold f_M_meets_b220
  refine gk_istore_n (pc := 220) (L' := [(2, .int s0), (0, va_rf v0), (1, .int v1)]) d_M_meets_220 (Nat.le_of_ble_eq_true rfl) rfl ?_
  refine gk_aload_n (pc := 221) 1 d_M_meets_221 rfl ?_
  refine gk_getI (pc := 222) 7 17 d_M_meets_222 rfl (Nat.le_of_ble_eq_true rfl) tw_1662 fun x1 => ?_
  refine gk_iconst (pc := 225) (1 : Int32) d_M_meets_225 rfl ?_
  refine gk_icmp_ne (pc := 226) 241 d_M_meets_226 rfl (fun _ => ?_) (fun _ => ?_)
  · refine gk_iload_n (pc := 229) 0 d_M_meets_229 rfl ?_
    refine gk_if_ne (pc := 230) 237 d_M_meets_230 rfl (fun _ => ?_) (fun _ => ?_)
    · refine gk_iconst (pc := 233) (1 : Int32) d_M_meets_233 rfl ?_
      refine gk_goto (pc := 234) 266 d_M_meets_234 rfl ?_
      refine gk_weak [] (L' := []) rfl ?_
      exact p_M_meets_b266 d (1 : Int32) h
    · refine gk_iconst (pc := 237) (0 : Int32) d_M_meets_237 rfl ?_
      refine gk_goto (pc := 238) 266 d_M_meets_238 rfl ?_
      refine gk_weak [] (L' := []) rfl ?_
      exact p_M_meets_b266 d (0 : Int32) h
  · refine gk_iload_n (pc := 241) 0 d_M_meets_241 rfl ?_
    refine gk_if_ne (pc := 242) 261 d_M_meets_242 rfl (fun _ => ?_) (fun _ => ?_)
    · refine gk_aload_n (pc := 245) 1 d_M_meets_245 rfl ?_
      refine gk_getI (pc := 246) 7 21 d_M_meets_246 rfl (Nat.le_of_ble_eq_true rfl) tw_1666 fun x2 => ?_
      refine gk_if_ne (pc := 249) 265 d_M_meets_249 rfl (fun _ => ?_) (fun _ => ?_)
      · refine gk_aload_n (pc := 252) 1 d_M_meets_252 rfl ?_
        refine gk_getR (pc := 253) 7 7 d_M_meets_253 rfl (Nat.le_of_ble_eq_true rfl) tw_1652 fun x3 => ?_
        refine gk_iload_n (pc := 256) 2 d_M_meets_256 rfl ?_
        refine gk_iald (pc := 257) d_M_meets_257 fun x4 => ?_
        refine gk_if_ne (pc := 258) 265 d_M_meets_258 rfl (fun _ => ?_) (fun _ => ?_)
        · refine gk_weak [] (L' := []) rfl ?_
          exact p_M_meets_b261 d h
        · refine gk_weak [] (L' := []) rfl ?_
          exact p_M_meets_b265 d h
      · refine gk_weak [] (L' := []) rfl ?_
        exact p_M_meets_b265 d h
    · refine gk_weak [] (L' := []) rfl ?_
      exact p_M_meets_b261 d h
theorem p_M_meets_b219 (d : Nat)  (v0 : Option Nat) (v1 : Int32) (h : gk_H) : gk_P gw_I (d + 2) y_M_meets b_M_meets 3 (some .boolean) [] (f_M_meets_b219  v0 v1 h) 219 [(0, va_rf v0), (1, .int v1)] [] h := by
  unfold f_M_meets_b219
  refine gk_iconst (pc := 219) (0 : Int32) d_M_meets_219 rfl ?_
  exact p_M_meets_b220 d v0 v1 (0 : Int32) h
theorem p_M_meets_b169 (d : Nat)  (s0 : Int32) (h : gk_H) : gk_P gw_I (d + 2) y_M_meets b_M_meets 3 (some .boolean) [] (f_M_meets_b169  s0 h) 169 [] [.int s0] h := by
  unfold f_M_meets_b169
  exact gk_zret (pc := 169) rfl d_M_meets_169 rfl
theorem p_M_meets_b168 (d : Nat)   (h : gk_H) : gk_P gw_I (d + 2) y_M_meets b_M_meets 3 (some .boolean) [] (f_M_meets_b168   h) 168 [] [] h := by
  unfold f_M_meets_b168
  refine gk_iconst (pc := 168) (0 : Int32) d_M_meets_168 rfl ?_
  exact p_M_meets_b169 d (0 : Int32) h
theorem p_M_meets_b104 (d : Nat)  (s0 : Int32) (h : gk_H) : gk_P gw_I (d + 2) y_M_meets b_M_meets 3 (some .boolean) [] (f_M_meets_b104  s0 h) 104 [] [.int s0] h := by
  unfold f_M_meets_b104
  exact gk_zret (pc := 104) rfl d_M_meets_104 rfl
theorem p_M_meets_b103 (d : Nat)   (h : gk_H) : gk_P gw_I (d + 2) y_M_meets b_M_meets 3 (some .boolean) [] (f_M_meets_b103   h) 103 [] [] h := by
  unfold f_M_meets_b103
  refine gk_iconst (pc := 103) (0 : Int32) d_M_meets_103 rfl ?_
  exact p_M_meets_b104 d (0 : Int32) h
theorem p_M_meets_b66 (d : Nat)  (s0 : Int32) (h : gk_H) : gk_P gw_I (d + 2) y_M_meets b_M_meets 3 (some .boolean) [] (f_M_meets_b66  s0 h) 66 [] [.int s0] h := by
  unfold f_M_meets_b66
  exact gk_zret (pc := 66) rfl d_M_meets_66 rfl
theorem w_M_meets (d : Nat) (a0 : Option Nat) (a1 : Int32) (h : gk_H) : gk_P gw_I (d + 2) y_M_meets b_M_meets 3 (some .boolean) [] (f_M_meets a0 a1 h) 0 [(0, va_rf a0), (1, .int a1)] [] h := by
  unfold f_M_meets
  refine gk_aload_n (pc := 0) 0 d_M_meets_0 rfl ?_
  refine gk_getR (pc := 1) 7 7 d_M_meets_1 rfl (Nat.le_of_ble_eq_true rfl) tw_1652 fun x1 => ?_
  refine gk_iload_n (pc := 4) 1 d_M_meets_4 rfl ?_
  refine gk_iald (pc := 5) d_M_meets_5 fun x2 => ?_
  refine gk_iconst (pc := 6) (4 : Int32) d_M_meets_6 rfl ?_
  refine gk_icmp_ne (pc := 7) 12 d_M_meets_7 rfl (fun _ => ?_) (fun _ => ?_)
  · refine gk_iconst (pc := 10) (0 : Int32) d_M_meets_10 rfl ?_
    exact gk_zret (pc := 11) rfl d_M_meets_11 rfl
  · refine gk_aload_n (pc := 12) 0 d_M_meets_12 rfl ?_
    refine gk_getI (pc := 13) 7 18 d_M_meets_13 rfl (Nat.le_of_ble_eq_true rfl) tw_1663 fun x3 => ?_
    refine gk_iconst (pc := 16) (1 : Int32) d_M_meets_16 rfl ?_
    refine gk_icmp_ne (pc := 17) 67 d_M_meets_17 rfl (fun _ => ?_) (fun _ => ?_)
    · refine gk_aload_n (pc := 20) 0 d_M_meets_20 rfl ?_
      refine gk_getR (pc := 21) 7 7 d_M_meets_21 rfl (Nat.le_of_ble_eq_true rfl) tw_1652 fun x4 => ?_
      refine gk_iload_n (pc := 24) 1 d_M_meets_24 rfl ?_
      refine gk_iald (pc := 25) d_M_meets_25 fun x5 => ?_
      refine gk_iconst (pc := 26) (1 : Int32) d_M_meets_26 rfl ?_
      refine gk_icmp_ne (pc := 27) 53 d_M_meets_27 rfl (fun _ => ?_) (fun _ => ?_)
      · refine gk_aload_n (pc := 30) 0 d_M_meets_30 rfl ?_
        refine gk_getI (pc := 31) 7 17 d_M_meets_31 rfl (Nat.le_of_ble_eq_true rfl) tw_1662 fun x6 => ?_
        refine gk_aload_n (pc := 34) 0 d_M_meets_34 rfl ?_
        refine gk_getR (pc := 35) 7 8 d_M_meets_35 rfl (Nat.le_of_ble_eq_true rfl) tw_1653 fun x7 => ?_
        refine gk_iload_n (pc := 38) 1 d_M_meets_38 rfl ?_
        refine gk_dald (pc := 39) d_M_meets_39 fun x8 => ?_
        refine gk_aload_n (pc := 40) 0 d_M_meets_40 rfl ?_
        refine gk_getD (pc := 41) 7 19 d_M_meets_41 rfl (Nat.le_of_ble_eq_true rfl) tw_1664 fun x9 => ?_
        refine gk_callS (pc := 44) (d := (d + 1)) (w' := gv_I) (as := [.double x8, .double x9]) (n := 2) d_M_meets_44 rfl rfl (Nat.le_of_ble_eq_true rfl) tw_1820 tw_1821 tw_99 cw_M_compareNumbers hy_M_compareNumbers (Nat.le_of_ble_eq_true rfl) (p_M_compareNumbers (d + 1) x8 x9 h) fun x10 h1 => ?_
        refine gk_callS (pc := 47) (d := (d + 1)) (w' := gv_I) (as := [.int x6, .int x10]) (n := 2) d_M_meets_47 rfl rfl (Nat.le_of_ble_eq_true rfl) tw_1823 tw_1824 tw_99 cw_M_stands hy_M_stands (Nat.le_of_ble_eq_true rfl) (p_M_stands (d + 1) x6 x10 h1) fun x11 h2 => ?_
        refine gk_goto (pc := 50) 66 d_M_meets_50 rfl ?_
        refine gk_weak [] (L' := []) rfl ?_
        exact p_M_meets_b66 d x11 h2
      · refine gk_aload_n (pc := 53) 0 d_M_meets_53 rfl ?_
        refine gk_getI (pc := 54) 7 17 d_M_meets_54 rfl (Nat.le_of_ble_eq_true rfl) tw_1662 fun x12 => ?_
        refine gk_iconst (pc := 57) (1 : Int32) d_M_meets_57 rfl ?_
        refine gk_icmp_ne (pc := 58) 65 d_M_meets_58 rfl (fun _ => ?_) (fun _ => ?_)
        · refine gk_iconst (pc := 61) (1 : Int32) d_M_meets_61 rfl ?_
          refine gk_goto (pc := 62) 66 d_M_meets_62 rfl ?_
          refine gk_weak [] (L' := []) rfl ?_
          exact p_M_meets_b66 d (1 : Int32) h
        · refine gk_iconst (pc := 65) (0 : Int32) d_M_meets_65 rfl ?_
          refine gk_weak [] (L' := []) rfl ?_
          exact p_M_meets_b66 d (0 : Int32) h
    · refine gk_aload_n (pc := 67) 0 d_M_meets_67 rfl ?_
      refine gk_getI (pc := 68) 7 18 d_M_meets_68 rfl (Nat.le_of_ble_eq_true rfl) tw_1663 fun x13 => ?_
      refine gk_iconst (pc := 71) (3 : Int32) d_M_meets_71 rfl ?_
      refine gk_icmp_ne (pc := 72) 105 d_M_meets_72 rfl (fun _ => ?_) (fun _ => ?_)
      · refine gk_aload_n (pc := 75) 0 d_M_meets_75 rfl ?_
        refine gk_getR (pc := 76) 7 7 d_M_meets_76 rfl (Nat.le_of_ble_eq_true rfl) tw_1652 fun x14 => ?_
        refine gk_iload_n (pc := 79) 1 d_M_meets_79 rfl ?_
        refine gk_iald (pc := 80) d_M_meets_80 fun x15 => ?_
        refine gk_iconst (pc := 81) (3 : Int32) d_M_meets_81 rfl ?_
        refine gk_icmp_ne (pc := 82) 103 d_M_meets_82 rfl (fun _ => ?_) (fun _ => ?_)
        · refine gk_aload_n (pc := 85) 0 d_M_meets_85 rfl ?_
          refine gk_getR (pc := 86) 7 8 d_M_meets_86 rfl (Nat.le_of_ble_eq_true rfl) tw_1653 fun x16 => ?_
          refine gk_iload_n (pc := 89) 1 d_M_meets_89 rfl ?_
          refine gk_dald (pc := 90) d_M_meets_90 fun x17 => ?_
          refine gk_aload_n (pc := 91) 0 d_M_meets_91 rfl ?_
          refine gk_getD (pc := 92) 7 19 d_M_meets_92 rfl (Nat.le_of_ble_eq_true rfl) tw_1664 fun x18 => ?_
          refine gk_dcmp (pc := 95) d_M_meets_95 ?_
          refine gk_if_ne (pc := 96) 103 d_M_meets_96 rfl (fun _ => ?_) (fun _ => ?_)
          · refine gk_iconst (pc := 99) (1 : Int32) d_M_meets_99 rfl ?_
            refine gk_goto (pc := 100) 104 d_M_meets_100 rfl ?_
            refine gk_weak [] (L' := []) rfl ?_
            exact p_M_meets_b104 d (1 : Int32) h
          · refine gk_weak [] (L' := []) rfl ?_
            exact p_M_meets_b103 d h
        · refine gk_weak [] (L' := []) rfl ?_
          exact p_M_meets_b103 d h
      · refine gk_aload_n (pc := 105) 0 d_M_meets_105 rfl ?_
        refine gk_getI (pc := 106) 7 17 d_M_meets_106 rfl (Nat.le_of_ble_eq_true rfl) tw_1662 fun x19 => ?_
        refine gk_iconst (pc := 109) (1 : Int32) d_M_meets_109 rfl ?_
        refine gk_icmp_le (pc := 110) 170 d_M_meets_110 rfl (fun _ => ?_) (fun _ => ?_)
        · refine gk_aload_n (pc := 170) 0 d_M_meets_170 rfl ?_
          refine gk_getR (pc := 171) 7 7 d_M_meets_171 rfl (Nat.le_of_ble_eq_true rfl) tw_1652 fun x20 => ?_
          refine gk_iload_n (pc := 174) 1 d_M_meets_174 rfl ?_
          refine gk_iald (pc := 175) d_M_meets_175 fun x21 => ?_
          refine gk_iconst (pc := 176) (2 : Int32) d_M_meets_176 rfl ?_
          refine gk_icmp_ne (pc := 177) 219 d_M_meets_177 rfl (fun _ => ?_) (fun _ => ?_)
          · refine gk_aload_n (pc := 180) 0 d_M_meets_180 rfl ?_
            refine gk_aload_n (pc := 181) 0 d_M_meets_181 rfl ?_
            refine gk_getR (pc := 182) 7 10 d_M_meets_182 rfl (Nat.le_of_ble_eq_true rfl) tw_1655 fun x22 => ?_
            refine gk_sipush (pc := 185) (256 : Int32) d_M_meets_185 rfl ?_
            refine gk_iload_n (pc := 188) 1 d_M_meets_188 rfl ?_
            refine gk_imul (pc := 189) d_M_meets_189 ?_
            refine gk_aload_n (pc := 190) 0 d_M_meets_190 rfl ?_
            refine gk_getR (pc := 191) 7 9 d_M_meets_191 rfl (Nat.le_of_ble_eq_true rfl) tw_1654 fun x23 => ?_
            refine gk_iload_n (pc := 194) 1 d_M_meets_194 rfl ?_
            refine gk_iald (pc := 195) d_M_meets_195 fun x24 => ?_
            refine gk_aload_n (pc := 196) 0 d_M_meets_196 rfl ?_
            refine gk_getR (pc := 197) 7 15 d_M_meets_197 rfl (Nat.le_of_ble_eq_true rfl) tw_1660 fun x25 => ?_
            refine gk_aload_n (pc := 200) 0 d_M_meets_200 rfl ?_
            refine gk_getI (pc := 201) 7 20 d_M_meets_201 rfl (Nat.le_of_ble_eq_true rfl) tw_1665 fun x26 => ?_
            refine gk_aload_n (pc := 204) 0 d_M_meets_204 rfl ?_
            refine gk_getI (pc := 205) 7 21 d_M_meets_205 rfl (Nat.le_of_ble_eq_true rfl) tw_1666 fun x27 => ?_
            refine gk_iconst (pc := 208) (0 : Int32) d_M_meets_208 rfl ?_
            refine gk_callV (pc := 209) (d := (d + 1)) (w' := gv_I) (as := [va_rf x22, .int ((256 : Int32) * a1), .int x24, va_rf x25, .int x26, .int x27, .int (0 : Int32)]) (n := 7) 7 d_M_meets_209 rfl rfl rfl rfl (Nat.le_of_ble_eq_true rfl) tw_1999 tw_2001 tw_56 tw_99 cw_M_isLike hy_M_isLike (Nat.le_of_ble_eq_true rfl) (p_M_isLike d a0 x22 ((256 : Int32) * a1) x24 x25 x26 x27 (0 : Int32) h) fun x28 h3 => ?_
            refine gk_if_eq (pc := 212) 219 d_M_meets_212 rfl (fun _ => ?_) (fun _ => ?_)
            · exact p_M_meets_b219 d a0 a1 h3
            · refine gk_iconst (pc := 215) (1 : Int32) d_M_meets_215 rfl ?_
              refine gk_goto (pc := 216) 220 d_M_meets_216 rfl ?_
              exact p_M_meets_b220 d a0 a1 (1 : Int32) h3
          · exact p_M_meets_b219 d a0 a1 h
        · refine gk_aload_n (pc := 113) 0 d_M_meets_113 rfl ?_
          refine gk_getR (pc := 114) 7 7 d_M_meets_114 rfl (Nat.le_of_ble_eq_true rfl) tw_1652 fun x29 => ?_
          refine gk_iload_n (pc := 117) 1 d_M_meets_117 rfl ?_
          refine gk_iald (pc := 118) d_M_meets_118 fun x30 => ?_
          refine gk_iconst (pc := 119) (2 : Int32) d_M_meets_119 rfl ?_
          refine gk_icmp_ne (pc := 120) 168 d_M_meets_120 rfl (fun _ => ?_) (fun _ => ?_)
          · refine gk_aload_n (pc := 123) 0 d_M_meets_123 rfl ?_
            refine gk_getI (pc := 124) 7 17 d_M_meets_124 rfl (Nat.le_of_ble_eq_true rfl) tw_1662 fun x31 => ?_
            refine gk_aload_n (pc := 127) 0 d_M_meets_127 rfl ?_
            refine gk_aload_n (pc := 128) 0 d_M_meets_128 rfl ?_
            refine gk_getR (pc := 129) 7 10 d_M_meets_129 rfl (Nat.le_of_ble_eq_true rfl) tw_1655 fun x32 => ?_
            refine gk_sipush (pc := 132) (256 : Int32) d_M_meets_132 rfl ?_
            refine gk_iload_n (pc := 135) 1 d_M_meets_135 rfl ?_
            refine gk_imul (pc := 136) d_M_meets_136 ?_
            refine gk_aload_n (pc := 137) 0 d_M_meets_137 rfl ?_
            refine gk_getR (pc := 138) 7 9 d_M_meets_138 rfl (Nat.le_of_ble_eq_true rfl) tw_1654 fun x33 => ?_
            refine gk_iload_n (pc := 141) 1 d_M_meets_141 rfl ?_
            refine gk_iald (pc := 142) d_M_meets_142 fun x34 => ?_
            refine gk_aload_n (pc := 143) 0 d_M_meets_143 rfl ?_
            refine gk_getR (pc := 144) 7 15 d_M_meets_144 rfl (Nat.le_of_ble_eq_true rfl) tw_1660 fun x35 => ?_
            refine gk_aload_n (pc := 147) 0 d_M_meets_147 rfl ?_
            refine gk_getI (pc := 148) 7 20 d_M_meets_148 rfl (Nat.le_of_ble_eq_true rfl) tw_1665 fun x36 => ?_
            refine gk_aload_n (pc := 151) 0 d_M_meets_151 rfl ?_
            refine gk_getI (pc := 152) 7 21 d_M_meets_152 rfl (Nat.le_of_ble_eq_true rfl) tw_1666 fun x37 => ?_
            refine gk_callV (pc := 155) (d := (d + 1)) (w' := gv_I) (as := [va_rf x32, .int ((256 : Int32) * a1), .int x34, va_rf x35, .int x36, .int x37]) (n := 6) 7 d_M_meets_155 rfl rfl rfl rfl (Nat.le_of_ble_eq_true rfl) tw_1813 tw_1815 tw_23 tw_99 cw_M_compareWords hy_M_compareWords (Nat.le_of_ble_eq_true rfl) (p_M_compareWords d a0 x32 ((256 : Int32) * a1) x34 x35 x36 x37 h) fun x38 h4 => ?_
            refine gk_callS (pc := 158) (d := (d + 1)) (w' := gv_I) (as := [.int x31, .int x38]) (n := 2) d_M_meets_158 rfl rfl (Nat.le_of_ble_eq_true rfl) tw_1823 tw_1824 tw_99 cw_M_stands hy_M_stands (Nat.le_of_ble_eq_true rfl) (p_M_stands (d + 1) x31 x38 h4) fun x39 h5 => ?_
            refine gk_if_eq (pc := 161) 168 d_M_meets_161 rfl (fun _ => ?_) (fun _ => ?_)
            · refine gk_weak [] (L' := []) rfl ?_
              exact p_M_meets_b168 d h5
            · refine gk_iconst (pc := 164) (1 : Int32) d_M_meets_164 rfl ?_
              refine gk_goto (pc := 165) 169 d_M_meets_165 rfl ?_
              refine gk_weak [] (L' := []) rfl ?_
              exact p_M_meets_b169 d (1 : Int32) h5
          · refine gk_weak [] (L' := []) rfl ?_
            exact p_M_meets_b168 d h
theorem p_M_meets (d : Nat) (a0 : Option Nat) (a1 : Int32) (h : gk_H) : ∀ r h1, f_M_meets a0 a1 h = some (r, h1) → gk_M (d + 2) y_M_meets b_M_meets 3 (some .boolean) [va_rf a0, .int a1] h (.inl (gv_I r)) h1 :=
  fun r h1 e => gk_M_of2 (by decide +kernel) (by simp [lv_args, gk_cat_rf, gk_catI, gk_catJ, gk_catD, gv_V, gv_I, gv_J, gv_D, gv_R]) (by simp [lg_sl, gk_cat_rf, gk_catI, gk_catJ, gk_catD, gv_V, gv_I, gv_J, gv_D, gv_R]) (w_M_meets d a0 a1 h r h1 e)
theorem d_M_conditions_0 : decode b_M_conditions 0 = .ok (.iload_n 1, 1) := by decide +kernel
theorem d_M_conditions_1 : decode b_M_conditions 1 = .ok (.bipush 15, 2) := by decide +kernel
theorem d_M_conditions_3 : decode b_M_conditions 3 = .ok (.if_icmp .ne 10, 3) := by decide +kernel
theorem d_M_conditions_6 : decode b_M_conditions 6 = .ok (.aload_n 0, 1) := by decide +kernel
theorem d_M_conditions_7 : decode b_M_conditions 7 = .ok (.iload_n 2, 1) := by decide +kernel
theorem d_M_conditions_8 : decode b_M_conditions 8 = .ok (.iload_n 3, 1) := by decide +kernel
theorem d_M_conditions_9 : decode b_M_conditions 9 = .ok (.invokevirtual 319, 3) := by decide +kernel
theorem d_M_conditions_12 : decode b_M_conditions 12 = .ok (.return_, 1) := by decide +kernel
theorem d_M_conditions_13 : decode b_M_conditions 13 = .ok (.aload_n 0, 1) := by decide +kernel
theorem d_M_conditions_14 : decode b_M_conditions 14 = .ok (.iload_n 2, 1) := by decide +kernel
theorem d_M_conditions_15 : decode b_M_conditions 15 = .ok (.iconst 1, 1) := by decide +kernel
theorem d_M_conditions_16 : decode b_M_conditions 16 = .ok (.iadd, 1) := by decide +kernel
theorem d_M_conditions_17 : decode b_M_conditions 17 = .ok (.invokevirtual 183, 3) := by decide +kernel
theorem d_M_conditions_20 : decode b_M_conditions 20 = .ok (.istore 4, 2) := by decide +kernel
theorem d_M_conditions_22 : decode b_M_conditions 22 = .ok (.aload_n 0, 1) := by decide +kernel
theorem d_M_conditions_23 : decode b_M_conditions 23 = .ok (.getfield 62, 3) := by decide +kernel
theorem d_M_conditions_26 : decode b_M_conditions 26 = .ok (.ifCond .le 4, 3) := by decide +kernel
theorem d_M_conditions_29 : decode b_M_conditions 29 = .ok (.return_, 1) := by decide +kernel
theorem d_M_conditions_30 : decode b_M_conditions 30 = .ok (.iload_n 3, 1) := by decide +kernel
theorem d_M_conditions_31 : decode b_M_conditions 31 = .ok (.iconst 3, 1) := by decide +kernel
theorem d_M_conditions_32 : decode b_M_conditions 32 = .ok (.if_icmp .ne 9, 3) := by decide +kernel
theorem d_M_conditions_35 : decode b_M_conditions 35 = .ok (.iload_n 2, 1) := by decide +kernel
theorem d_M_conditions_36 : decode b_M_conditions 36 = .ok (.iconst 2, 1) := by decide +kernel
theorem d_M_conditions_37 : decode b_M_conditions 37 = .ok (.iadd, 1) := by decide +kernel
theorem d_M_conditions_38 : decode b_M_conditions 38 = .ok (.goto 4, 3) := by decide +kernel
theorem d_M_conditions_41 : decode b_M_conditions 41 = .ok (.iload_n 2, 1) := by decide +kernel
theorem d_M_conditions_42 : decode b_M_conditions 42 = .ok (.istore 5, 2) := by decide +kernel
theorem d_M_conditions_44 : decode b_M_conditions 44 = .ok (.aload_n 0, 1) := by decide +kernel
theorem d_M_conditions_45 : decode b_M_conditions 45 = .ok (.getfield 17, 3) := by decide +kernel
theorem d_M_conditions_48 : decode b_M_conditions 48 = .ok (.iload 5, 2) := by decide +kernel
theorem d_M_conditions_50 : decode b_M_conditions 50 = .ok (.iaload, 1) := by decide +kernel
theorem d_M_conditions_51 : decode b_M_conditions 51 = .ok (.aload_n 0, 1) := by decide +kernel
theorem d_M_conditions_52 : decode b_M_conditions 52 = .ok (.getfield 17, 3) := by decide +kernel
theorem d_M_conditions_55 : decode b_M_conditions 55 = .ok (.iload_n 2, 1) := by decide +kernel
theorem d_M_conditions_56 : decode b_M_conditions 56 = .ok (.iaload, 1) := by decide +kernel
theorem d_M_conditions_57 : decode b_M_conditions 57 = .ok (.if_icmp .ne 19, 3) := by decide +kernel
theorem d_M_conditions_60 : decode b_M_conditions 60 = .ok (.aload_n 0, 1) := by decide +kernel
theorem d_M_conditions_61 : decode b_M_conditions 61 = .ok (.getfield 20, 3) := by decide +kernel
theorem d_M_conditions_64 : decode b_M_conditions 64 = .ok (.iload 5, 2) := by decide +kernel
theorem d_M_conditions_66 : decode b_M_conditions 66 = .ok (.iaload, 1) := by decide +kernel
theorem d_M_conditions_67 : decode b_M_conditions 67 = .ok (.aload_n 0, 1) := by decide +kernel
theorem d_M_conditions_68 : decode b_M_conditions 68 = .ok (.getfield 20, 3) := by decide +kernel
theorem d_M_conditions_71 : decode b_M_conditions 71 = .ok (.iload_n 2, 1) := by decide +kernel
theorem d_M_conditions_72 : decode b_M_conditions 72 = .ok (.iaload, 1) := by decide +kernel
theorem d_M_conditions_73 : decode b_M_conditions 73 = .ok (.if_icmp .eq 9, 3) := by decide +kernel
theorem d_M_conditions_76 : decode b_M_conditions 76 = .ok (.aload_n 0, 1) := by decide +kernel
theorem d_M_conditions_77 : decode b_M_conditions 77 = .ok (.iconst 3, 1) := by decide +kernel
theorem d_M_conditions_78 : decode b_M_conditions 78 = .ok (.invokevirtual 58, 3) := by decide +kernel
theorem d_M_conditions_81 : decode b_M_conditions 81 = .ok (.return_, 1) := by decide +kernel
theorem d_M_conditions_82 : decode b_M_conditions 82 = .ok (.aload_n 0, 1) := by decide +kernel
theorem d_M_conditions_83 : decode b_M_conditions 83 = .ok (.iload 4, 2) := by decide +kernel
theorem d_M_conditions_85 : decode b_M_conditions 85 = .ok (.invokevirtual 322, 3) := by decide +kernel
theorem d_M_conditions_88 : decode b_M_conditions 88 = .ok (.iconst 0, 1) := by decide +kernel
theorem d_M_conditions_89 : decode b_M_conditions 89 = .ok (.istore 6, 2) := by decide +kernel
theorem d_M_conditions_91 : decode b_M_conditions 91 = .ok (.iconst 0, 1) := by decide +kernel
theorem d_M_conditions_92 : decode b_M_conditions 92 = .ok (.istore 7, 2) := by decide +kernel
theorem d_M_conditions_94 : decode b_M_conditions 94 = .ok (.dconst 0, 1) := by decide +kernel
theorem d_M_conditions_95 : decode b_M_conditions 95 = .ok (.dstore 8, 2) := by decide +kernel
theorem d_M_conditions_97 : decode b_M_conditions 97 = .ok (.iconst 0, 1) := by decide +kernel
theorem d_M_conditions_98 : decode b_M_conditions 98 = .ok (.istore 10, 2) := by decide +kernel
theorem d_M_conditions_100 : decode b_M_conditions 100 = .ok (.iload 10, 2) := by decide +kernel
theorem d_M_conditions_102 : decode b_M_conditions 102 = .ok (.aload_n 0, 1) := by decide +kernel
theorem d_M_conditions_103 : decode b_M_conditions 103 = .ok (.getfield 17, 3) := by decide +kernel
theorem d_M_conditions_106 : decode b_M_conditions 106 = .ok (.iload_n 2, 1) := by decide +kernel
theorem d_M_conditions_107 : decode b_M_conditions 107 = .ok (.iaload, 1) := by decide +kernel
theorem d_M_conditions_108 : decode b_M_conditions 108 = .ok (.aload_n 0, 1) := by decide +kernel
theorem d_M_conditions_109 : decode b_M_conditions 109 = .ok (.getfield 20, 3) := by decide +kernel
theorem d_M_conditions_112 : decode b_M_conditions 112 = .ok (.iload_n 2, 1) := by decide +kernel
theorem d_M_conditions_113 : decode b_M_conditions 113 = .ok (.iaload, 1) := by decide +kernel
theorem d_M_conditions_114 : decode b_M_conditions 114 = .ok (.imul, 1) := by decide +kernel
theorem d_M_conditions_115 : decode b_M_conditions 115 = .ok (.if_icmp .ge 81, 3) := by decide +kernel
theorem d_M_conditions_118 : decode b_M_conditions 118 = .ok (.aload_n 0, 1) := by decide +kernel
theorem d_M_conditions_119 : decode b_M_conditions 119 = .ok (.getfield 62, 3) := by decide +kernel
theorem d_M_conditions_122 : decode b_M_conditions 122 = .ok (.ifCond .ne 74, 3) := by decide +kernel
theorem d_M_conditions_125 : decode b_M_conditions 125 = .ok (.aload_n 0, 1) := by decide +kernel
theorem d_M_conditions_126 : decode b_M_conditions 126 = .ok (.bipush 16, 2) := by decide +kernel
theorem d_M_conditions_128 : decode b_M_conditions 128 = .ok (.iload_n 2, 1) := by decide +kernel
theorem d_M_conditions_129 : decode b_M_conditions 129 = .ok (.imul, 1) := by decide +kernel
theorem d_M_conditions_130 : decode b_M_conditions 130 = .ok (.iload 10, 2) := by decide +kernel
theorem d_M_conditions_132 : decode b_M_conditions 132 = .ok (.iadd, 1) := by decide +kernel
theorem d_M_conditions_133 : decode b_M_conditions 133 = .ok (.invokevirtual 325, 3) := by decide +kernel
theorem d_M_conditions_136 : decode b_M_conditions 136 = .ok (.ifCond .eq 54, 3) := by decide +kernel
theorem d_M_conditions_139 : decode b_M_conditions 139 = .ok (.iinc 6 1, 3) := by decide +kernel
theorem d_M_conditions_142 : decode b_M_conditions 142 = .ok (.iload_n 1, 1) := by decide +kernel
theorem d_M_conditions_143 : decode b_M_conditions 143 = .ok (.bipush 16, 2) := by decide +kernel
theorem d_M_conditions_145 : decode b_M_conditions 145 = .ok (.if_icmp .le 45, 3) := by decide +kernel
theorem d_M_conditions_148 : decode b_M_conditions 148 = .ok (.aload_n 0, 1) := by decide +kernel
theorem d_M_conditions_149 : decode b_M_conditions 149 = .ok (.getfield 23, 3) := by decide +kernel
theorem d_M_conditions_152 : decode b_M_conditions 152 = .ok (.bipush 16, 2) := by decide +kernel
theorem d_M_conditions_154 : decode b_M_conditions 154 = .ok (.iload 5, 2) := by decide +kernel
theorem d_M_conditions_156 : decode b_M_conditions 156 = .ok (.imul, 1) := by decide +kernel
theorem d_M_conditions_157 : decode b_M_conditions 157 = .ok (.iload 10, 2) := by decide +kernel
theorem d_M_conditions_159 : decode b_M_conditions 159 = .ok (.iadd, 1) := by decide +kernel
theorem d_M_conditions_160 : decode b_M_conditions 160 = .ok (.iaload, 1) := by decide +kernel
theorem d_M_conditions_161 : decode b_M_conditions 161 = .ok (.iconst 1, 1) := by decide +kernel
theorem d_M_conditions_162 : decode b_M_conditions 162 = .ok (.if_icmp .ne 28, 3) := by decide +kernel
theorem d_M_conditions_165 : decode b_M_conditions 165 = .ok (.iinc 7 1, 3) := by decide +kernel
theorem d_M_conditions_168 : decode b_M_conditions 168 = .ok (.aload_n 0, 1) := by decide +kernel
theorem d_M_conditions_169 : decode b_M_conditions 169 = .ok (.dload 8, 2) := by decide +kernel
theorem d_M_conditions_171 : decode b_M_conditions 171 = .ok (.aload_n 0, 1) := by decide +kernel
theorem d_M_conditions_172 : decode b_M_conditions 172 = .ok (.getfield 26, 3) := by decide +kernel
theorem d_M_conditions_175 : decode b_M_conditions 175 = .ok (.bipush 16, 2) := by decide +kernel
theorem d_M_conditions_177 : decode b_M_conditions 177 = .ok (.iload 5, 2) := by decide +kernel
theorem d_M_conditions_179 : decode b_M_conditions 179 = .ok (.imul, 1) := by decide +kernel
theorem d_M_conditions_180 : decode b_M_conditions 180 = .ok (.iload 10, 2) := by decide +kernel
theorem d_M_conditions_182 : decode b_M_conditions 182 = .ok (.iadd, 1) := by decide +kernel
theorem d_M_conditions_183 : decode b_M_conditions 183 = .ok (.daload, 1) := by decide +kernel
theorem d_M_conditions_184 : decode b_M_conditions 184 = .ok (.dadd, 1) := by decide +kernel
theorem d_M_conditions_185 : decode b_M_conditions 185 = .ok (.invokevirtual 217, 3) := by decide +kernel
theorem d_M_conditions_188 : decode b_M_conditions 188 = .ok (.dstore 8, 2) := by decide +kernel
theorem d_M_conditions_190 : decode b_M_conditions 190 = .ok (.iinc 10 1, 3) := by decide +kernel
theorem d_M_conditions_193 : decode b_M_conditions 193 = .ok (.goto (-93), 3) := by decide +kernel
theorem d_M_conditions_196 : decode b_M_conditions 196 = .ok (.aload_n 0, 1) := by decide +kernel
theorem d_M_conditions_197 : decode b_M_conditions 197 = .ok (.getfield 62, 3) := by decide +kernel
theorem d_M_conditions_200 : decode b_M_conditions 200 = .ok (.ifCond .le 4, 3) := by decide +kernel
theorem d_M_conditions_203 : decode b_M_conditions 203 = .ok (.return_, 1) := by decide +kernel
theorem d_M_conditions_204 : decode b_M_conditions 204 = .ok (.aload_n 0, 1) := by decide +kernel
theorem d_M_conditions_205 : decode b_M_conditions 205 = .ok (.iload_n 1, 1) := by decide +kernel
theorem d_M_conditions_206 : decode b_M_conditions 206 = .ok (.bipush 16, 2) := by decide +kernel
theorem d_M_conditions_208 : decode b_M_conditions 208 = .ok (.if_icmp .ne 9, 3) := by decide +kernel
theorem d_M_conditions_211 : decode b_M_conditions 211 = .ok (.iload 6, 2) := by decide +kernel
theorem d_M_conditions_213 : decode b_M_conditions 213 = .ok (.i2d, 1) := by decide +kernel
theorem d_M_conditions_214 : decode b_M_conditions 214 = .ok (.goto 23, 3) := by decide +kernel
theorem d_M_conditions_217 : decode b_M_conditions 217 = .ok (.iload_n 1, 1) := by decide +kernel
theorem d_M_conditions_218 : decode b_M_conditions 218 = .ok (.bipush 17, 2) := by decide +kernel
theorem d_M_conditions_220 : decode b_M_conditions 220 = .ok (.if_icmp .ne 8, 3) := by decide +kernel
theorem d_M_conditions_223 : decode b_M_conditions 223 = .ok (.dload 8, 2) := by decide +kernel
theorem d_M_conditions_225 : decode b_M_conditions 225 = .ok (.goto 12, 3) := by decide +kernel
theorem d_M_conditions_228 : decode b_M_conditions 228 = .ok (.aload_n 0, 1) := by decide +kernel
theorem d_M_conditions_229 : decode b_M_conditions 229 = .ok (.dload 8, 2) := by decide +kernel
theorem d_M_conditions_231 : decode b_M_conditions 231 = .ok (.iload 7, 2) := by decide +kernel
theorem d_M_conditions_233 : decode b_M_conditions 233 = .ok (.i2d, 1) := by decide +kernel
theorem d_M_conditions_234 : decode b_M_conditions 234 = .ok (.invokevirtual 221, 3) := by decide +kernel
theorem d_M_conditions_237 : decode b_M_conditions 237 = .ok (.invokevirtual 207, 3) := by decide +kernel
theorem d_M_conditions_240 : decode b_M_conditions 240 = .ok (.return_, 1) := by decide +kernel
theorem p_M_conditions_b76 (d : Nat)  (v0 : Option Nat) (h : gk_H) : gk_P gw_V (d + 3) y_M_conditions b_M_conditions 11 none [] (f_M_conditions_b76  v0 h) 76 [(0, va_rf v0)] [] h := by
  unfold f_M_conditions_b76
  refine gk_aload_n (pc := 76) 0 d_M_conditions_76 rfl ?_
  refine gk_iconst (pc := 77) (3 : Int32) d_M_conditions_77 rfl ?_
  refine gk_callV (pc := 78) (d := (d + 2)) (w' := gv_V) (as := [.int (3 : Int32)]) (n := 1) 7 d_M_conditions_78 rfl rfl rfl rfl (Nat.le_of_ble_eq_true rfl) tw_1805 tw_1807 tw_21 tw_99 cw_M_fail hy_M_fail (Nat.le_of_ble_eq_true rfl) (p_M_fail (d + 2) v0 (3 : Int32) h) fun _ h1 => ?_
  exact gk_vret (pc := 81) rfl d_M_conditions_81 rfl
theorem p_M_conditions_b237 (d : Nat)  (s0 : Option Nat) (s1 : UInt64) (h : gk_H) : gk_P gw_V (d + 3) y_M_conditions b_M_conditions 11 none [] (f_M_conditions_b237  s0 s1 h) 237 [] [.double s1, va_rf s0] h := by
  unfold f_M_conditions_b237
  refine gk_callV (pc := 237) (d := (d + 2)) (w' := gv_V) (as := [.double s1]) (n := 1) 7 d_M_conditions_237 rfl rfl rfl rfl (Nat.le_of_ble_eq_true rfl) tw_1916 tw_1918 tw_38 tw_99 cw_M_answerNumber hy_M_answerNumber (Nat.le_of_ble_eq_true rfl) (p_M_answerNumber (d + 1) s0 s1 h) fun _ h1 => ?_
  exact gk_vret (pc := 240) rfl d_M_conditions_240 rfl
theorem p_M_conditions_b196 (d : Nat)  (v0 : Option Nat) (v1 : Int32) (v6 : Int32) (v7 : Int32) (v8 : UInt64) (h : gk_H) : gk_P gw_V (d + 3) y_M_conditions b_M_conditions 11 none [] (f_M_conditions_b196  v0 v1 v6 v7 v8 h) 196 [(0, va_rf v0), (1, .int v1), (6, .int v6), (7, .int v7), (8, .double v8)] [] h := by
  unfold f_M_conditions_b196
  refine gk_aload_n (pc := 196) 0 d_M_conditions_196 rfl ?_
  refine gk_getI (pc := 197) 7 11 d_M_conditions_197 rfl (Nat.le_of_ble_eq_true rfl) tw_1656 fun x1 => ?_
  refine gk_if_le (pc := 200) 204 d_M_conditions_200 rfl (fun _ => ?_) (fun _ => ?_)
  · refine gk_aload_n (pc := 204) 0 d_M_conditions_204 rfl ?_
    refine gk_iload_n (pc := 205) 1 d_M_conditions_205 rfl ?_
    refine gk_bipush (pc := 206) (16 : Int32) d_M_conditions_206 rfl ?_
    refine gk_icmp_ne (pc := 208) 217 d_M_conditions_208 rfl (fun _ => ?_) (fun _ => ?_)
    · refine gk_iload (pc := 211) 2 d_M_conditions_211 rfl ?_
      refine gk_i2d (pc := 213) d_M_conditions_213 ?_
      refine gk_goto (pc := 214) 237 d_M_conditions_214 rfl ?_
      refine gk_weak [] (L' := []) rfl ?_
      exact p_M_conditions_b237 d v0 (FP.i2d v6) h
    · refine gk_iload_n (pc := 217) 1 d_M_conditions_217 rfl ?_
      refine gk_bipush (pc := 218) (17 : Int32) d_M_conditions_218 rfl ?_
      refine gk_icmp_ne (pc := 220) 228 d_M_conditions_220 rfl (fun _ => ?_) (fun _ => ?_)
      · refine gk_dload (pc := 223) 4 d_M_conditions_223 rfl ?_
        refine gk_goto (pc := 225) 237 d_M_conditions_225 rfl ?_
        refine gk_weak [] (L' := []) rfl ?_
        exact p_M_conditions_b237 d v0 v8 h
      · refine gk_aload_n (pc := 228) 0 d_M_conditions_228 rfl ?_
        refine gk_dload (pc := 229) 4 d_M_conditions_229 rfl ?_
        refine gk_iload (pc := 231) 3 d_M_conditions_231 rfl ?_
        refine gk_i2d (pc := 233) d_M_conditions_233 ?_
        refine gk_callV (pc := 234) (d := (d + 2)) (w' := gv_D) (as := [.double v8, .double (FP.i2d v7)]) (n := 2) 7 d_M_conditions_234 rfl rfl rfl rfl (by simp [gk_cat_rf, gk_catI, gk_catJ, gk_catD, gv_V, gv_I, gv_J, gv_D, gv_R]) tw_1912 tw_1914 tw_37 tw_99 cw_M_divide hy_M_divide (Nat.le_of_ble_eq_true rfl) (p_M_divide d v0 v8 (FP.i2d v7) h) fun x2 h1 => ?_
        refine gk_weak [] (L' := []) rfl ?_
        exact p_M_conditions_b237 d v0 x2 h1
  · exact gk_vret (pc := 203) rfl d_M_conditions_203 rfl
theorem p_M_conditions_b190 (d : Nat) (b100 : Option Nat → Int32 → Int32 → Int32 → Int32 → Int32 → UInt64 → Int32 → gk_H → Option (Unit × gk_H)) (q100 : ∀ (v0 : Option Nat) (v1 : Int32) (v2 : Int32) (v5 : Int32) (v6 : Int32) (v7 : Int32) (v8 : UInt64) (v10 : Int32) (h : gk_H), gk_P gw_V (d + 3) y_M_conditions b_M_conditions 11 none [] (b100 v0 v1 v2 v5 v6 v7 v8 v10 h) 100 [(0, va_rf v0), (1, .int v1), (2, .int v2), (5, .int v5), (6, .int v6), (7, .int v7), (8, .double v8), (10, .int v10)] [] h) (v0 : Option Nat) (v1 : Int32) (v2 : Int32) (v5 : Int32) (v6 : Int32) (v7 : Int32) (v8 : UInt64) (v10 : Int32) (h : gk_H) : gk_P gw_V (d + 3) y_M_conditions b_M_conditions 11 none [] (f_M_conditions_b190 b100 v0 v1 v2 v5 v6 v7 v8 v10 h) 190 [(0, va_rf v0), (1, .int v1), (2, .int v2), (5, .int v5), (6, .int v6), (7, .int v7), (8, .double v8), (10, .int v10)] [] h := by
  unfold f_M_conditions_b190
  refine gk_iincN (pc := 190) 7 (1 : Int32) (L' := fun x1 => [(10, .int x1), (0, va_rf v0), (1, .int v1), (2, .int v2), (5, .int v5), (6, .int v6), (7, .int v7), (8, .double v8)]) d_M_conditions_190 rfl rfl (Nat.le_of_ble_eq_true rfl) (fun _ => rfl) fun x1 => ?_
  refine gk_goto (pc := 193) 100 d_M_conditions_193 rfl ?_
  refine gk_weak [1, 2, 3, 4, 5, 6, 7, 0] (L' := [(0, va_rf v0), (1, .int v1), (2, .int v2), (5, .int v5), (6, .int v6), (7, .int v7), (8, .double v8), (10, .int x1)]) rfl ?_
  exact q100 v0 v1 v2 v5 v6 v7 v8 x1 h
theorem p_M_conditions_b100 (d : Nat)  : ∀ (fu : Nat) (v0 : Option Nat) (v1 : Int32) (v2 : Int32) (v5 : Int32) (v6 : Int32) (v7 : Int32) (v8 : UInt64) (v10 : Int32) (h : gk_H), gk_P gw_V (d + 3) y_M_conditions b_M_conditions 11 none [] (f_M_conditions_b100  fu v0 v1 v2 v5 v6 v7 v8 v10 h) 100 [(0, va_rf v0), (1, .int v1), (2, .int v2), (5, .int v5), (6, .int v6), (7, .int v7), (8, .double v8), (10, .int v10)] [] h := by
  intro fu
  induction fu with
  | zero => intros; exact gk_none
  | succ fu q100 =>
    intro v0 v1 v2 v5 v6 v7 v8 v10 h
    rw [f_M_conditions_b100]
    refine gk_iload (pc := 100) 7 d_M_conditions_100 rfl ?_
    refine gk_aload_n (pc := 102) 0 d_M_conditions_102 rfl ?_
    refine gk_getR (pc := 103) 7 5 d_M_conditions_103 rfl (Nat.le_of_ble_eq_true rfl) tw_1650 fun x1 => ?_
    refine gk_iload_n (pc := 106) 2 d_M_conditions_106 rfl ?_
    refine gk_iald (pc := 107) d_M_conditions_107 fun x2 => ?_
    refine gk_aload_n (pc := 108) 0 d_M_conditions_108 rfl ?_
    refine gk_getR (pc := 109) 7 6 d_M_conditions_109 rfl (Nat.le_of_ble_eq_true rfl) tw_1651 fun x3 => ?_
    refine gk_iload_n (pc := 112) 2 d_M_conditions_112 rfl ?_
    refine gk_iald (pc := 113) d_M_conditions_113 fun x4 => ?_
    refine gk_imul (pc := 114) d_M_conditions_114 ?_
    refine gk_icmp_ge (pc := 115) 196 d_M_conditions_115 rfl (fun _ => ?_) (fun _ => ?_)
    · refine gk_weak [0, 1, 4, 5, 6] (L' := [(0, va_rf v0), (1, .int v1), (6, .int v6), (7, .int v7), (8, .double v8)]) rfl ?_
      exact p_M_conditions_b196 d v0 v1 v6 v7 v8 h
    · refine gk_aload_n (pc := 118) 0 d_M_conditions_118 rfl ?_
      refine gk_getI (pc := 119) 7 11 d_M_conditions_119 rfl (Nat.le_of_ble_eq_true rfl) tw_1656 fun x5 => ?_
      refine gk_if_ne (pc := 122) 196 d_M_conditions_122 rfl (fun _ => ?_) (fun _ => ?_)
      · refine gk_aload_n (pc := 125) 0 d_M_conditions_125 rfl ?_
        refine gk_bipush (pc := 126) (16 : Int32) d_M_conditions_126 rfl ?_
        refine gk_iload_n (pc := 128) 2 d_M_conditions_128 rfl ?_
        refine gk_imul (pc := 129) d_M_conditions_129 ?_
        refine gk_iload (pc := 130) 7 d_M_conditions_130 rfl ?_
        refine gk_iadd (pc := 132) d_M_conditions_132 ?_
        refine gk_callV (pc := 133) (d := (d + 2)) (w' := gv_I) (as := [.int (((16 : Int32) * v2) + v10)]) (n := 1) 7 d_M_conditions_133 rfl rfl rfl rfl (Nat.le_of_ble_eq_true rfl) tw_1995 tw_1997 tw_55 tw_99 cw_M_meets hy_M_meets (Nat.le_of_ble_eq_true rfl) (p_M_meets d v0 (((16 : Int32) * v2) + v10) h) fun x6 h1 => ?_
        refine gk_if_eq (pc := 136) 190 d_M_conditions_136 rfl (fun _ => ?_) (fun _ => ?_)
        · exact p_M_conditions_b190 d (f_M_conditions_b100 fu) q100 v0 v1 v2 v5 v6 v7 v8 v10 h1
        · refine gk_iincN (pc := 139) 4 (1 : Int32) (L' := fun x7 => [(6, .int x7), (0, va_rf v0), (1, .int v1), (2, .int v2), (5, .int v5), (7, .int v7), (8, .double v8), (10, .int v10)]) d_M_conditions_139 rfl rfl (Nat.le_of_ble_eq_true rfl) (fun _ => rfl) fun x7 => ?_
          refine gk_iload_n (pc := 142) 2 d_M_conditions_142 rfl ?_
          refine gk_bipush (pc := 143) (16 : Int32) d_M_conditions_143 rfl ?_
          refine gk_icmp_le (pc := 145) 190 d_M_conditions_145 rfl (fun _ => ?_) (fun _ => ?_)
          · refine gk_weak [1, 2, 3, 4, 0, 5, 6, 7] (L' := [(0, va_rf v0), (1, .int v1), (2, .int v2), (5, .int v5), (6, .int x7), (7, .int v7), (8, .double v8), (10, .int v10)]) rfl ?_
            exact p_M_conditions_b190 d (f_M_conditions_b100 fu) q100 v0 v1 v2 v5 x7 v7 v8 v10 h1
          · refine gk_aload_n (pc := 148) 1 d_M_conditions_148 rfl ?_
            refine gk_getR (pc := 149) 7 7 d_M_conditions_149 rfl (Nat.le_of_ble_eq_true rfl) tw_1652 fun x8 => ?_
            refine gk_bipush (pc := 152) (16 : Int32) d_M_conditions_152 rfl ?_
            refine gk_iload (pc := 154) 4 d_M_conditions_154 rfl ?_
            refine gk_imul (pc := 156) d_M_conditions_156 ?_
            refine gk_iload (pc := 157) 7 d_M_conditions_157 rfl ?_
            refine gk_iadd (pc := 159) d_M_conditions_159 ?_
            refine gk_iald (pc := 160) d_M_conditions_160 fun x9 => ?_
            refine gk_iconst (pc := 161) (1 : Int32) d_M_conditions_161 rfl ?_
            refine gk_icmp_ne (pc := 162) 190 d_M_conditions_162 rfl (fun _ => ?_) (fun _ => ?_)
            · refine gk_iincN (pc := 165) 5 (1 : Int32) (L' := fun x10 => [(7, .int x10), (6, .int x7), (0, va_rf v0), (1, .int v1), (2, .int v2), (5, .int v5), (8, .double v8), (10, .int v10)]) d_M_conditions_165 rfl rfl (Nat.le_of_ble_eq_true rfl) (fun _ => rfl) fun x10 => ?_
              refine gk_aload_n (pc := 168) 2 d_M_conditions_168 rfl ?_
              refine gk_dload (pc := 169) 6 d_M_conditions_169 rfl ?_
              refine gk_aload_n (pc := 171) 2 d_M_conditions_171 rfl ?_
              refine gk_getR (pc := 172) 7 8 d_M_conditions_172 rfl (Nat.le_of_ble_eq_true rfl) tw_1653 fun x11 => ?_
              refine gk_bipush (pc := 175) (16 : Int32) d_M_conditions_175 rfl ?_
              refine gk_iload (pc := 177) 5 d_M_conditions_177 rfl ?_
              refine gk_imul (pc := 179) d_M_conditions_179 ?_
              refine gk_iload (pc := 180) 7 d_M_conditions_180 rfl ?_
              refine gk_iadd (pc := 182) d_M_conditions_182 ?_
              refine gk_dald (pc := 183) d_M_conditions_183 fun x12 => ?_
              refine gk_daddN (pc := 184) d_M_conditions_184 fun x13 => ?_
              refine gk_callV (pc := 185) (d := (d + 2)) (w' := gv_D) (as := [.double x13]) (n := 1) 7 d_M_conditions_185 rfl rfl rfl rfl (Nat.le_of_ble_eq_true rfl) tw_1903 tw_1905 tw_36 tw_99 cw_M_step hy_M_step (Nat.le_of_ble_eq_true rfl) (p_M_step (d + 1) v0 x13 h1) fun x14 h2 => ?_
              refine gk_dstore (pc := 188) (L' := [(8, .double x14), (7, .int x10), (6, .int x7), (0, va_rf v0), (1, .int v1), (2, .int v2), (5, .int v5), (10, .int v10)]) d_M_conditions_188 (Nat.le_of_ble_eq_true rfl) rfl ?_
              refine gk_weak [3, 4, 5, 6, 2, 1, 0, 7] (L' := [(0, va_rf v0), (1, .int v1), (2, .int v2), (5, .int v5), (6, .int x7), (7, .int x10), (8, .double x14), (10, .int v10)]) rfl ?_
              exact p_M_conditions_b190 d (f_M_conditions_b100 fu) q100 v0 v1 v2 v5 x7 x10 x14 v10 h2
            · refine gk_weak [1, 2, 3, 4, 0, 5, 6, 7] (L' := [(0, va_rf v0), (1, .int v1), (2, .int v2), (5, .int v5), (6, .int x7), (7, .int v7), (8, .double v8), (10, .int v10)]) rfl ?_
              exact p_M_conditions_b190 d (f_M_conditions_b100 fu) q100 v0 v1 v2 v5 x7 v7 v8 v10 h1
      · refine gk_weak [0, 1, 4, 5, 6] (L' := [(0, va_rf v0), (1, .int v1), (6, .int v6), (7, .int v7), (8, .double v8)]) rfl ?_
        exact p_M_conditions_b196 d v0 v1 v6 v7 v8 h
theorem p_M_conditions_b42 (d : Nat)  (v0 : Option Nat) (v1 : Int32) (v2 : Int32) (v4 : Int32) (s0 : Int32) (h : gk_H) : gk_P gw_V (d + 3) y_M_conditions b_M_conditions 11 none [] (f_M_conditions_b42  v0 v1 v2 v4 s0 h) 42 [(0, va_rf v0), (1, .int v1), (2, .int v2), (4, .int v4)] [.int s0] h := by
  unfold f_M_conditions_b42
  refine gk_istore (pc := 42) (L' := [(5, .int s0), (0, va_rf v0), (1, .int v1), (2, .int v2), (4, .int v4)]) d_M_conditions_42 (Nat.le_of_ble_eq_true rfl) rfl ?_
  refine gk_aload_n (pc := 44) 1 d_M_conditions_44 rfl ?_
  refine gk_getR (pc := 45) 7 5 d_M_conditions_45 rfl (Nat.le_of_ble_eq_true rfl) tw_1650 fun x1 => ?_
  refine gk_iload (pc := 48) 0 d_M_conditions_48 rfl ?_
  refine gk_iald (pc := 50) d_M_conditions_50 fun x2 => ?_
  refine gk_aload_n (pc := 51) 1 d_M_conditions_51 rfl ?_
  refine gk_getR (pc := 52) 7 5 d_M_conditions_52 rfl (Nat.le_of_ble_eq_true rfl) tw_1650 fun x3 => ?_
  refine gk_iload_n (pc := 55) 3 d_M_conditions_55 rfl ?_
  refine gk_iald (pc := 56) d_M_conditions_56 fun x4 => ?_
  refine gk_icmp_ne (pc := 57) 76 d_M_conditions_57 rfl (fun _ => ?_) (fun _ => ?_)
  · refine gk_aload_n (pc := 60) 1 d_M_conditions_60 rfl ?_
    refine gk_getR (pc := 61) 7 6 d_M_conditions_61 rfl (Nat.le_of_ble_eq_true rfl) tw_1651 fun x5 => ?_
    refine gk_iload (pc := 64) 0 d_M_conditions_64 rfl ?_
    refine gk_iald (pc := 66) d_M_conditions_66 fun x6 => ?_
    refine gk_aload_n (pc := 67) 1 d_M_conditions_67 rfl ?_
    refine gk_getR (pc := 68) 7 6 d_M_conditions_68 rfl (Nat.le_of_ble_eq_true rfl) tw_1651 fun x7 => ?_
    refine gk_iload_n (pc := 71) 3 d_M_conditions_71 rfl ?_
    refine gk_iald (pc := 72) d_M_conditions_72 fun x8 => ?_
    refine gk_icmp_eq (pc := 73) 82 d_M_conditions_73 rfl (fun _ => ?_) (fun _ => ?_)
    · refine gk_aload_n (pc := 82) 1 d_M_conditions_82 rfl ?_
      refine gk_iload (pc := 83) 4 d_M_conditions_83 rfl ?_
      refine gk_callV (pc := 85) (d := (d + 2)) (w' := gv_V) (as := [.int v4]) (n := 1) 7 d_M_conditions_85 rfl rfl rfl rfl (Nat.le_of_ble_eq_true rfl) tw_1991 tw_1993 tw_54 tw_99 cw_M_condition hy_M_condition (Nat.le_of_ble_eq_true rfl) (p_M_condition d v0 v4 h) fun _ h1 => ?_
      refine gk_iconst (pc := 88) (0 : Int32) d_M_conditions_88 rfl ?_
      refine gk_istore (pc := 89) (L' := [(6, .int (0 : Int32)), (5, .int s0), (0, va_rf v0), (1, .int v1), (2, .int v2), (4, .int v4)]) d_M_conditions_89 (Nat.le_of_ble_eq_true rfl) rfl ?_
      refine gk_iconst (pc := 91) (0 : Int32) d_M_conditions_91 rfl ?_
      refine gk_istore (pc := 92) (L' := [(7, .int (0 : Int32)), (6, .int (0 : Int32)), (5, .int s0), (0, va_rf v0), (1, .int v1), (2, .int v2), (4, .int v4)]) d_M_conditions_92 (Nat.le_of_ble_eq_true rfl) rfl ?_
      refine gk_dconst0 (pc := 94) d_M_conditions_94 ?_
      refine gk_dstore (pc := 95) (L' := [(8, .double (0x0000000000000000)), (7, .int (0 : Int32)), (6, .int (0 : Int32)), (5, .int s0), (0, va_rf v0), (1, .int v1), (2, .int v2), (4, .int v4)]) d_M_conditions_95 (Nat.le_of_ble_eq_true rfl) rfl ?_
      refine gk_iconst (pc := 97) (0 : Int32) d_M_conditions_97 rfl ?_
      refine gk_istore (pc := 98) (L' := [(10, .int (0 : Int32)), (8, .double (0x0000000000000000)), (7, .int (0 : Int32)), (6, .int (0 : Int32)), (5, .int s0), (0, va_rf v0), (1, .int v1), (2, .int v2), (4, .int v4)]) d_M_conditions_98 (Nat.le_of_ble_eq_true rfl) rfl ?_
      refine gk_weak [5, 6, 7, 4, 3, 2, 1, 0] (L' := [(0, va_rf v0), (1, .int v1), (2, .int v2), (5, .int s0), (6, .int (0 : Int32)), (7, .int (0 : Int32)), (8, .double (0x0000000000000000)), (10, .int (0 : Int32))]) rfl ?_
      exact p_M_conditions_b100 d gk_F v0 v1 v2 s0 (0 : Int32) (0 : Int32) (0x0000000000000000) (0 : Int32) h1
    · refine gk_weak [1] (L' := [(0, va_rf v0)]) rfl ?_
      exact p_M_conditions_b76 d v0 h
  · refine gk_weak [1] (L' := [(0, va_rf v0)]) rfl ?_
    exact p_M_conditions_b76 d v0 h
theorem w_M_conditions (d : Nat) (a0 : Option Nat) (a1 : Int32) (a2 : Int32) (a3 : Int32) (h : gk_H) : gk_P gw_V (d + 3) y_M_conditions b_M_conditions 11 none [] (f_M_conditions a0 a1 a2 a3 h) 0 [(0, va_rf a0), (1, .int a1), (2, .int a2), (3, .int a3)] [] h := by
  unfold f_M_conditions
  refine gk_iload_n (pc := 0) 1 d_M_conditions_0 rfl ?_
  refine gk_bipush (pc := 1) (15 : Int32) d_M_conditions_1 rfl ?_
  refine gk_icmp_ne (pc := 3) 13 d_M_conditions_3 rfl (fun _ => ?_) (fun _ => ?_)
  · refine gk_aload_n (pc := 6) 0 d_M_conditions_6 rfl ?_
    refine gk_iload_n (pc := 7) 2 d_M_conditions_7 rfl ?_
    refine gk_iload_n (pc := 8) 3 d_M_conditions_8 rfl ?_
    refine gk_callV (pc := 9) (d := (d + 2)) (w' := gv_V) (as := [.int a2, .int a3]) (n := 2) 7 d_M_conditions_9 rfl rfl rfl rfl (Nat.le_of_ble_eq_true rfl) tw_1987 tw_1989 tw_53 tw_99 cw_M_products hy_M_products (Nat.le_of_ble_eq_true rfl) (p_M_products d a0 a2 a3 h) fun _ h1 => ?_
    exact gk_vret (pc := 12) rfl d_M_conditions_12 rfl
  · refine gk_aload_n (pc := 13) 0 d_M_conditions_13 rfl ?_
    refine gk_iload_n (pc := 14) 2 d_M_conditions_14 rfl ?_
    refine gk_iconst (pc := 15) (1 : Int32) d_M_conditions_15 rfl ?_
    refine gk_iadd (pc := 16) d_M_conditions_16 ?_
    refine gk_callV (pc := 17) (d := (d + 2)) (w' := gv_I) (as := [.int (a2 + (1 : Int32))]) (n := 1) 7 d_M_conditions_17 rfl rfl rfl rfl (Nat.le_of_ble_eq_true rfl) tw_1797 tw_1799 tw_19 tw_99 cw_M_wantAny hy_M_wantAny (Nat.le_of_ble_eq_true rfl) (p_M_wantAny d a0 (a2 + (1 : Int32)) h) fun x1 h2 => ?_
    refine gk_istore (pc := 20) (L' := [(4, .int x1), (0, va_rf a0), (1, .int a1), (2, .int a2), (3, .int a3)]) d_M_conditions_20 (Nat.le_of_ble_eq_true rfl) rfl ?_
    refine gk_aload_n (pc := 22) 1 d_M_conditions_22 rfl ?_
    refine gk_getI (pc := 23) 7 11 d_M_conditions_23 rfl (Nat.le_of_ble_eq_true rfl) tw_1656 fun x2 => ?_
    refine gk_if_le (pc := 26) 30 d_M_conditions_26 rfl (fun _ => ?_) (fun _ => ?_)
    · refine gk_iload_n (pc := 30) 4 d_M_conditions_30 rfl ?_
      refine gk_iconst (pc := 31) (3 : Int32) d_M_conditions_31 rfl ?_
      refine gk_icmp_ne (pc := 32) 41 d_M_conditions_32 rfl (fun _ => ?_) (fun _ => ?_)
      · refine gk_iload_n (pc := 35) 3 d_M_conditions_35 rfl ?_
        refine gk_iconst (pc := 36) (2 : Int32) d_M_conditions_36 rfl ?_
        refine gk_iadd (pc := 37) d_M_conditions_37 ?_
        refine gk_goto (pc := 38) 42 d_M_conditions_38 rfl ?_
        refine gk_weak [1, 2, 3, 0] (L' := [(0, va_rf a0), (1, .int a1), (2, .int a2), (4, .int x1)]) rfl ?_
        exact p_M_conditions_b42 d a0 a1 a2 x1 (a2 + (2 : Int32)) h2
      · refine gk_iload_n (pc := 41) 3 d_M_conditions_41 rfl ?_
        refine gk_weak [1, 2, 3, 0] (L' := [(0, va_rf a0), (1, .int a1), (2, .int a2), (4, .int x1)]) rfl ?_
        exact p_M_conditions_b42 d a0 a1 a2 x1 a2 h2
    · exact gk_vret (pc := 29) rfl d_M_conditions_29 rfl
theorem p_M_conditions (d : Nat) (a0 : Option Nat) (a1 : Int32) (a2 : Int32) (a3 : Int32) (h : gk_H) : ∀ r h1, f_M_conditions a0 a1 a2 a3 h = some (r, h1) → gk_M (d + 3) y_M_conditions b_M_conditions 11 none [va_rf a0, .int a1, .int a2, .int a3] h (.inl (gv_V r)) h1 :=
  fun r h1 e => gk_M_of2 (by decide +kernel) (by simp [lv_args, gk_cat_rf, gk_catI, gk_catJ, gk_catD, gv_V, gv_I, gv_J, gv_D, gv_R]) (by simp [lg_sl, gk_cat_rf, gk_catI, gk_catJ, gk_catD, gv_V, gv_I, gv_J, gv_D, gv_R]) (w_M_conditions d a0 a1 a2 a3 h r h1 e)
theorem d_M_floor_0 : decode b_M_floor 0 = .ok (.dload_n 0, 1) := by decide +kernel
theorem d_M_floor_1 : decode b_M_floor 1 = .ok (.ldc2_w 140, 3) := by decide +kernel
theorem d_M_floor_4 : decode b_M_floor 4 = .ok (.dcmp .l, 1) := by decide +kernel
theorem d_M_floor_5 : decode b_M_floor 5 = .ok (.ifCond .ge 11, 3) := by decide +kernel
theorem d_M_floor_8 : decode b_M_floor 8 = .ok (.dload_n 0, 1) := by decide +kernel
theorem d_M_floor_9 : decode b_M_floor 9 = .ok (.ldc2_w 142, 3) := by decide +kernel
theorem d_M_floor_12 : decode b_M_floor 12 = .ok (.dcmp .g, 1) := by decide +kernel
theorem d_M_floor_13 : decode b_M_floor 13 = .ok (.ifCond .gt 5, 3) := by decide +kernel
theorem d_M_floor_16 : decode b_M_floor 16 = .ok (.dload_n 0, 1) := by decide +kernel
theorem d_M_floor_17 : decode b_M_floor 17 = .ok (.dreturn, 1) := by decide +kernel
theorem d_M_floor_18 : decode b_M_floor 18 = .ok (.dload_n 0, 1) := by decide +kernel
theorem d_M_floor_19 : decode b_M_floor 19 = .ok (.d2l, 1) := by decide +kernel
theorem d_M_floor_20 : decode b_M_floor 20 = .ok (.lstore_n 2, 1) := by decide +kernel
theorem d_M_floor_21 : decode b_M_floor 21 = .ok (.lload_n 2, 1) := by decide +kernel
theorem d_M_floor_22 : decode b_M_floor 22 = .ok (.l2d, 1) := by decide +kernel
theorem d_M_floor_23 : decode b_M_floor 23 = .ok (.dload_n 0, 1) := by decide +kernel
theorem d_M_floor_24 : decode b_M_floor 24 = .ok (.dcmp .l, 1) := by decide +kernel
theorem d_M_floor_25 : decode b_M_floor 25 = .ok (.ifCond .le 10, 3) := by decide +kernel
theorem d_M_floor_28 : decode b_M_floor 28 = .ok (.lload_n 2, 1) := by decide +kernel
theorem d_M_floor_29 : decode b_M_floor 29 = .ok (.lconst 1, 1) := by decide +kernel
theorem d_M_floor_30 : decode b_M_floor 30 = .ok (.lsub, 1) := by decide +kernel
theorem d_M_floor_31 : decode b_M_floor 31 = .ok (.l2d, 1) := by decide +kernel
theorem d_M_floor_32 : decode b_M_floor 32 = .ok (.goto 5, 3) := by decide +kernel
theorem d_M_floor_35 : decode b_M_floor 35 = .ok (.lload_n 2, 1) := by decide +kernel
theorem d_M_floor_36 : decode b_M_floor 36 = .ok (.l2d, 1) := by decide +kernel
theorem d_M_floor_37 : decode b_M_floor 37 = .ok (.dreturn, 1) := by decide +kernel
theorem p_M_floor_b16 (d : Nat)  (v0 : UInt64) (h : gk_H) : gk_P gw_D d y_M_floor b_M_floor 4 (some .double) [] (f_M_floor_b16  v0 h) 16 [(0, .double v0)] [] h := by
  unfold f_M_floor_b16
  refine gk_dload_n (pc := 16) 0 d_M_floor_16 rfl ?_
  exact gk_dret (pc := 17) rfl d_M_floor_17 rfl
theorem p_M_floor_b37 (d : Nat)  (s0 : UInt64) (h : gk_H) : gk_P gw_D d y_M_floor b_M_floor 4 (some .double) [] (f_M_floor_b37  s0 h) 37 [] [.double s0] h := by
  unfold f_M_floor_b37
  exact gk_dret (pc := 37) rfl d_M_floor_37 rfl
theorem w_M_floor (d : Nat) (a0 : UInt64) (h : gk_H) : gk_P gw_D d y_M_floor b_M_floor 4 (some .double) [] (f_M_floor a0 h) 0 [(0, .double a0)] [] h := by
  unfold f_M_floor
  refine gk_dload_n (pc := 0) 0 d_M_floor_0 rfl ?_
  refine gk_ldc2d (pc := 1) tw_1901 d_M_floor_1 ?_
  refine gk_dcmp (pc := 4) d_M_floor_4 ?_
  refine gk_if_ge (pc := 5) 16 d_M_floor_5 rfl (fun _ => ?_) (fun _ => ?_)
  · exact p_M_floor_b16 d a0 h
  · refine gk_dload_n (pc := 8) 0 d_M_floor_8 rfl ?_
    refine gk_ldc2d (pc := 9) tw_1902 d_M_floor_9 ?_
    refine gk_dcmp (pc := 12) d_M_floor_12 ?_
    refine gk_if_gt (pc := 13) 18 d_M_floor_13 rfl (fun _ => ?_) (fun _ => ?_)
    · refine gk_dload_n (pc := 18) 0 d_M_floor_18 rfl ?_
      refine gk_d2l (pc := 19) d_M_floor_19 ?_
      refine gk_topJ (pc := 20) fun x1 => ?_
      refine gk_lstore_n (pc := 20) (L' := [(2, .long x1), (0, .double a0)]) d_M_floor_20 (Nat.le_of_ble_eq_true rfl) rfl ?_
      refine gk_lload_n (pc := 21) 0 d_M_floor_21 rfl ?_
      refine gk_l2d (pc := 22) d_M_floor_22 ?_
      refine gk_dload_n (pc := 23) 1 d_M_floor_23 rfl ?_
      refine gk_dcmp (pc := 24) d_M_floor_24 ?_
      refine gk_if_le (pc := 25) 35 d_M_floor_25 rfl (fun _ => ?_) (fun _ => ?_)
      · refine gk_lload_n (pc := 35) 0 d_M_floor_35 rfl ?_
        refine gk_l2d (pc := 36) d_M_floor_36 ?_
        refine gk_weak [] (L' := []) rfl ?_
        exact p_M_floor_b37 d (FP.l2d x1) h
      · refine gk_lload_n (pc := 28) 0 d_M_floor_28 rfl ?_
        refine gk_lconst (pc := 29) (1 : Int64) d_M_floor_29 rfl ?_
        refine gk_lsub (pc := 30) d_M_floor_30 ?_
        refine gk_l2d (pc := 31) d_M_floor_31 ?_
        refine gk_goto (pc := 32) 37 d_M_floor_32 rfl ?_
        refine gk_weak [] (L' := []) rfl ?_
        exact p_M_floor_b37 d (FP.l2d (x1 - (1 : Int64))) h
    · exact p_M_floor_b16 d a0 h
theorem p_M_floor (d : Nat) (a0 : UInt64) (h : gk_H) : ∀ r h1, f_M_floor a0 h = some (r, h1) → gk_M d y_M_floor b_M_floor 4 (some .double) [.double a0] h (.inl (gv_D r)) h1 :=
  fun r h1 e => gk_M_of2 (by decide +kernel) (by simp [lv_args, gk_cat_rf, gk_catI, gk_catJ, gk_catD, gv_V, gv_I, gv_J, gv_D, gv_R]) (by simp [lg_sl, gk_cat_rf, gk_catI, gk_catJ, gk_catD, gv_V, gv_I, gv_J, gv_D, gv_R]) (w_M_floor d a0 h r h1 e)
theorem d_M_rounded_0 : decode b_M_rounded 0 = .ok (.dload_n 1, 1) := by decide +kernel
theorem d_M_rounded_1 : decode b_M_rounded 1 = .ok (.dconst 0, 1) := by decide +kernel
theorem d_M_rounded_2 : decode b_M_rounded 2 = .ok (.dcmp .g, 1) := by decide +kernel
theorem d_M_rounded_3 : decode b_M_rounded 3 = .ok (.ifCond .ge 8, 3) := by decide +kernel
theorem d_M_rounded_6 : decode b_M_rounded 6 = .ok (.dload_n 1, 1) := by decide +kernel
theorem d_M_rounded_7 : decode b_M_rounded 7 = .ok (.dneg, 1) := by decide +kernel
theorem d_M_rounded_8 : decode b_M_rounded 8 = .ok (.goto 4, 3) := by decide +kernel
theorem d_M_rounded_11 : decode b_M_rounded 11 = .ok (.dload_n 1, 1) := by decide +kernel
theorem d_M_rounded_12 : decode b_M_rounded 12 = .ok (.dstore 5, 2) := by decide +kernel
theorem d_M_rounded_14 : decode b_M_rounded 14 = .ok (.iload_n 3, 1) := by decide +kernel
theorem d_M_rounded_15 : decode b_M_rounded 15 = .ok (.ifCond .ge 8, 3) := by decide +kernel
theorem d_M_rounded_18 : decode b_M_rounded 18 = .ok (.iload_n 3, 1) := by decide +kernel
theorem d_M_rounded_19 : decode b_M_rounded 19 = .ok (.ineg, 1) := by decide +kernel
theorem d_M_rounded_20 : decode b_M_rounded 20 = .ok (.goto 4, 3) := by decide +kernel
theorem d_M_rounded_23 : decode b_M_rounded 23 = .ok (.iload_n 3, 1) := by decide +kernel
theorem d_M_rounded_24 : decode b_M_rounded 24 = .ok (.invokestatic 97, 3) := by decide +kernel
theorem d_M_rounded_27 : decode b_M_rounded 27 = .ok (.dstore 7, 2) := by decide +kernel
theorem d_M_rounded_29 : decode b_M_rounded 29 = .ok (.iload_n 3, 1) := by decide +kernel
theorem d_M_rounded_30 : decode b_M_rounded 30 = .ok (.ifCond .lt 15, 3) := by decide +kernel
theorem d_M_rounded_33 : decode b_M_rounded 33 = .ok (.aload_n 0, 1) := by decide +kernel
theorem d_M_rounded_34 : decode b_M_rounded 34 = .ok (.dload 5, 2) := by decide +kernel
theorem d_M_rounded_36 : decode b_M_rounded 36 = .ok (.dload 7, 2) := by decide +kernel
theorem d_M_rounded_38 : decode b_M_rounded 38 = .ok (.dmul, 1) := by decide +kernel
theorem d_M_rounded_39 : decode b_M_rounded 39 = .ok (.invokevirtual 217, 3) := by decide +kernel
theorem d_M_rounded_42 : decode b_M_rounded 42 = .ok (.goto 8, 3) := by decide +kernel
theorem d_M_rounded_45 : decode b_M_rounded 45 = .ok (.dload 5, 2) := by decide +kernel
theorem d_M_rounded_47 : decode b_M_rounded 47 = .ok (.dload 7, 2) := by decide +kernel
theorem d_M_rounded_49 : decode b_M_rounded 49 = .ok (.ddiv, 1) := by decide +kernel
theorem d_M_rounded_50 : decode b_M_rounded 50 = .ok (.dstore 9, 2) := by decide +kernel
theorem d_M_rounded_52 : decode b_M_rounded 52 = .ok (.aload_n 0, 1) := by decide +kernel
theorem d_M_rounded_53 : decode b_M_rounded 53 = .ok (.getfield 62, 3) := by decide +kernel
theorem d_M_rounded_56 : decode b_M_rounded 56 = .ok (.ifCond .le 5, 3) := by decide +kernel
theorem d_M_rounded_59 : decode b_M_rounded 59 = .ok (.dconst 0, 1) := by decide +kernel
theorem d_M_rounded_60 : decode b_M_rounded 60 = .ok (.dreturn, 1) := by decide +kernel
theorem d_M_rounded_61 : decode b_M_rounded 61 = .ok (.iload 4, 2) := by decide +kernel
theorem d_M_rounded_63 : decode b_M_rounded 63 = .ok (.ifCond .eq 15, 3) := by decide +kernel
theorem d_M_rounded_66 : decode b_M_rounded 66 = .ok (.aload_n 0, 1) := by decide +kernel
theorem d_M_rounded_67 : decode b_M_rounded 67 = .ok (.dload 9, 2) := by decide +kernel
theorem d_M_rounded_69 : decode b_M_rounded 69 = .ok (.ldc2_w 122, 3) := by decide +kernel
theorem d_M_rounded_72 : decode b_M_rounded 72 = .ok (.dadd, 1) := by decide +kernel
theorem d_M_rounded_73 : decode b_M_rounded 73 = .ok (.invokevirtual 217, 3) := by decide +kernel
theorem d_M_rounded_76 : decode b_M_rounded 76 = .ok (.dstore 9, 2) := by decide +kernel
theorem d_M_rounded_78 : decode b_M_rounded 78 = .ok (.aload_n 0, 1) := by decide +kernel
theorem d_M_rounded_79 : decode b_M_rounded 79 = .ok (.getfield 62, 3) := by decide +kernel
theorem d_M_rounded_82 : decode b_M_rounded 82 = .ok (.ifCond .le 7, 3) := by decide +kernel
theorem d_M_rounded_85 : decode b_M_rounded 85 = .ok (.dconst 0, 1) := by decide +kernel
theorem d_M_rounded_86 : decode b_M_rounded 86 = .ok (.goto 8, 3) := by decide +kernel
theorem d_M_rounded_89 : decode b_M_rounded 89 = .ok (.dload 9, 2) := by decide +kernel
theorem d_M_rounded_91 : decode b_M_rounded 91 = .ok (.invokestatic 227, 3) := by decide +kernel
theorem d_M_rounded_94 : decode b_M_rounded 94 = .ok (.dstore 9, 2) := by decide +kernel
theorem d_M_rounded_96 : decode b_M_rounded 96 = .ok (.iload_n 3, 1) := by decide +kernel
theorem d_M_rounded_97 : decode b_M_rounded 97 = .ok (.ifCond .lt 11, 3) := by decide +kernel
theorem d_M_rounded_100 : decode b_M_rounded 100 = .ok (.dload 9, 2) := by decide +kernel
theorem d_M_rounded_102 : decode b_M_rounded 102 = .ok (.dload 7, 2) := by decide +kernel
theorem d_M_rounded_104 : decode b_M_rounded 104 = .ok (.ddiv, 1) := by decide +kernel
theorem d_M_rounded_105 : decode b_M_rounded 105 = .ok (.goto 12, 3) := by decide +kernel
theorem d_M_rounded_108 : decode b_M_rounded 108 = .ok (.aload_n 0, 1) := by decide +kernel
theorem d_M_rounded_109 : decode b_M_rounded 109 = .ok (.dload 9, 2) := by decide +kernel
theorem d_M_rounded_111 : decode b_M_rounded 111 = .ok (.dload 7, 2) := by decide +kernel
theorem d_M_rounded_113 : decode b_M_rounded 113 = .ok (.dmul, 1) := by decide +kernel
theorem d_M_rounded_114 : decode b_M_rounded 114 = .ok (.invokevirtual 217, 3) := by decide +kernel
theorem d_M_rounded_117 : decode b_M_rounded 117 = .ok (.dstore 9, 2) := by decide +kernel
theorem d_M_rounded_119 : decode b_M_rounded 119 = .ok (.dload_n 1, 1) := by decide +kernel
theorem d_M_rounded_120 : decode b_M_rounded 120 = .ok (.dconst 0, 1) := by decide +kernel
theorem d_M_rounded_121 : decode b_M_rounded 121 = .ok (.dcmp .g, 1) := by decide +kernel
theorem d_M_rounded_122 : decode b_M_rounded 122 = .ok (.ifCond .ge 9, 3) := by decide +kernel
theorem d_M_rounded_125 : decode b_M_rounded 125 = .ok (.dload 9, 2) := by decide +kernel
theorem d_M_rounded_127 : decode b_M_rounded 127 = .ok (.dneg, 1) := by decide +kernel
theorem d_M_rounded_128 : decode b_M_rounded 128 = .ok (.goto 5, 3) := by decide +kernel
theorem d_M_rounded_131 : decode b_M_rounded 131 = .ok (.dload 9, 2) := by decide +kernel
theorem d_M_rounded_133 : decode b_M_rounded 133 = .ok (.dreturn, 1) := by decide +kernel
theorem p_M_rounded_b133 (d : Nat)  (s0 : UInt64) (h : gk_H) : gk_P gw_D (d + 2) y_M_rounded b_M_rounded 11 (some .double) [] (f_M_rounded_b133  s0 h) 133 [] [.double s0] h := by
  unfold f_M_rounded_b133
  exact gk_dret (pc := 133) rfl d_M_rounded_133 rfl
theorem p_M_rounded_b117 (d : Nat)  (v1 : UInt64) (s0 : UInt64) (h : gk_H) : gk_P gw_D (d + 2) y_M_rounded b_M_rounded 11 (some .double) [] (f_M_rounded_b117  v1 s0 h) 117 [(1, .double v1)] [.double s0] h := by
  unfold f_M_rounded_b117
  refine gk_dstore (pc := 117) (L' := [(9, .double s0), (1, .double v1)]) d_M_rounded_117 (Nat.le_of_ble_eq_true rfl) rfl ?_
  refine gk_dload_n (pc := 119) 1 d_M_rounded_119 rfl ?_
  refine gk_dconst0 (pc := 120) d_M_rounded_120 ?_
  refine gk_dcmp (pc := 121) d_M_rounded_121 ?_
  refine gk_if_ge (pc := 122) 131 d_M_rounded_122 rfl (fun _ => ?_) (fun _ => ?_)
  · refine gk_dload (pc := 131) 0 d_M_rounded_131 rfl ?_
    refine gk_weak [] (L' := []) rfl ?_
    exact p_M_rounded_b133 d s0 h
  · refine gk_dload (pc := 125) 0 d_M_rounded_125 rfl ?_
    refine gk_dneg (pc := 127) d_M_rounded_127 ?_
    refine gk_goto (pc := 128) 133 d_M_rounded_128 rfl ?_
    refine gk_weak [] (L' := []) rfl ?_
    exact p_M_rounded_b133 d (FP.dneg s0) h
theorem p_M_rounded_b94 (d : Nat)  (v0 : Option Nat) (v1 : UInt64) (v3 : Int32) (v7 : UInt64) (s0 : UInt64) (h : gk_H) : gk_P gw_D (d + 2) y_M_rounded b_M_rounded 11 (some .double) [] (f_M_rounded_b94  v0 v1 v3 v7 s0 h) 94 [(0, va_rf v0), (1, .double v1), (3, .int v3), (7, .double v7)] [.double s0] h := by
  unfold f_M_rounded_b94
  refine gk_dstore (pc := 94) (L' := [(9, .double s0), (0, va_rf v0), (1, .double v1), (3, .int v3), (7, .double v7)]) d_M_rounded_94 (Nat.le_of_ble_eq_true rfl) rfl ?_
  refine gk_iload_n (pc := 96) 3 d_M_rounded_96 rfl ?_
  refine gk_if_lt (pc := 97) 108 d_M_rounded_97 rfl (fun _ => ?_) (fun _ => ?_)
  · refine gk_aload_n (pc := 108) 1 d_M_rounded_108 rfl ?_
    refine gk_dload (pc := 109) 0 d_M_rounded_109 rfl ?_
    refine gk_dload (pc := 111) 4 d_M_rounded_111 rfl ?_
    refine gk_dmulN (pc := 113) d_M_rounded_113 fun x1 => ?_
    refine gk_callV (pc := 114) (d := (d + 1)) (w' := gv_D) (as := [.double x1]) (n := 1) 7 d_M_rounded_114 rfl rfl rfl rfl (Nat.le_of_ble_eq_true rfl) tw_1903 tw_1905 tw_36 tw_99 cw_M_step hy_M_step (Nat.le_of_ble_eq_true rfl) (p_M_step d v0 x1 h) fun x2 h1 => ?_
    refine gk_weak [2] (L' := [(1, .double v1)]) rfl ?_
    exact p_M_rounded_b117 d v1 x2 h1
  · refine gk_dload (pc := 100) 0 d_M_rounded_100 rfl ?_
    refine gk_dload (pc := 102) 4 d_M_rounded_102 rfl ?_
    refine gk_ddivN (pc := 104) d_M_rounded_104 fun x3 => ?_
    refine gk_goto (pc := 105) 117 d_M_rounded_105 rfl ?_
    refine gk_weak [2] (L' := [(1, .double v1)]) rfl ?_
    exact p_M_rounded_b117 d v1 x3 h
theorem p_M_rounded_b78 (d : Nat)  (v0 : Option Nat) (v1 : UInt64) (v3 : Int32) (v7 : UInt64) (v9 : UInt64) (h : gk_H) : gk_P gw_D (d + 2) y_M_rounded b_M_rounded 11 (some .double) [] (f_M_rounded_b78  v0 v1 v3 v7 v9 h) 78 [(0, va_rf v0), (1, .double v1), (3, .int v3), (7, .double v7), (9, .double v9)] [] h := by
  unfold f_M_rounded_b78
  refine gk_aload_n (pc := 78) 0 d_M_rounded_78 rfl ?_
  refine gk_getI (pc := 79) 7 11 d_M_rounded_79 rfl (Nat.le_of_ble_eq_true rfl) tw_1656 fun x1 => ?_
  refine gk_if_le (pc := 82) 89 d_M_rounded_82 rfl (fun _ => ?_) (fun _ => ?_)
  · refine gk_dload (pc := 89) 4 d_M_rounded_89 rfl ?_
    refine gk_callS (pc := 91) (d := (d + 1)) (w' := gv_D) (as := [.double v9]) (n := 1) d_M_rounded_91 rfl rfl (Nat.le_of_ble_eq_true rfl) tw_2027 tw_2028 tw_99 cw_M_floor hy_M_floor (Nat.le_of_ble_eq_true rfl) (p_M_floor (d + 1) v9 h) fun x2 h1 => ?_
    refine gk_weak [0, 1, 2, 3] (L' := [(0, va_rf v0), (1, .double v1), (3, .int v3), (7, .double v7)]) rfl ?_
    exact p_M_rounded_b94 d v0 v1 v3 v7 x2 h1
  · refine gk_dconst0 (pc := 85) d_M_rounded_85 ?_
    refine gk_goto (pc := 86) 94 d_M_rounded_86 rfl ?_
    refine gk_weak [0, 1, 2, 3] (L' := [(0, va_rf v0), (1, .double v1), (3, .int v3), (7, .double v7)]) rfl ?_
    exact p_M_rounded_b94 d v0 v1 v3 v7 (0x0000000000000000) h
theorem p_M_rounded_b50 (d : Nat)  (v0 : Option Nat) (v1 : UInt64) (v3 : Int32) (v4 : Int32) (v7 : UInt64) (s0 : UInt64) (h : gk_H) : gk_P gw_D (d + 2) y_M_rounded b_M_rounded 11 (some .double) [] (f_M_rounded_b50  v0 v1 v3 v4 v7 s0 h) 50 [(0, va_rf v0), (1, .double v1), (3, .int v3), (4, .int v4), (7, .double v7)] [.double s0] h := by
  unfold f_M_rounded_b50
  refine gk_dstore (pc := 50) (L' := [(9, .double s0), (0, va_rf v0), (1, .double v1), (3, .int v3), (4, .int v4), (7, .double v7)]) d_M_rounded_50 (Nat.le_of_ble_eq_true rfl) rfl ?_
  refine gk_aload_n (pc := 52) 1 d_M_rounded_52 rfl ?_
  refine gk_getI (pc := 53) 7 11 d_M_rounded_53 rfl (Nat.le_of_ble_eq_true rfl) tw_1656 fun x1 => ?_
  refine gk_if_le (pc := 56) 61 d_M_rounded_56 rfl (fun _ => ?_) (fun _ => ?_)
  · refine gk_iload (pc := 61) 4 d_M_rounded_61 rfl ?_
    refine gk_if_eq (pc := 63) 78 d_M_rounded_63 rfl (fun _ => ?_) (fun _ => ?_)
    · refine gk_weak [1, 2, 3, 5, 0] (L' := [(0, va_rf v0), (1, .double v1), (3, .int v3), (7, .double v7), (9, .double s0)]) rfl ?_
      exact p_M_rounded_b78 d v0 v1 v3 v7 s0 h
    · refine gk_aload_n (pc := 66) 1 d_M_rounded_66 rfl ?_
      refine gk_dload (pc := 67) 0 d_M_rounded_67 rfl ?_
      refine gk_ldc2d (pc := 69) tw_1851 d_M_rounded_69 ?_
      refine gk_daddN (pc := 72) d_M_rounded_72 fun x2 => ?_
      refine gk_callV (pc := 73) (d := (d + 1)) (w' := gv_D) (as := [.double x2]) (n := 1) 7 d_M_rounded_73 rfl rfl rfl rfl (Nat.le_of_ble_eq_true rfl) tw_1903 tw_1905 tw_36 tw_99 cw_M_step hy_M_step (Nat.le_of_ble_eq_true rfl) (p_M_step d v0 x2 h) fun x3 h1 => ?_
      refine gk_dstore (pc := 76) (L' := [(9, .double x3), (0, va_rf v0), (1, .double v1), (3, .int v3), (4, .int v4), (7, .double v7)]) d_M_rounded_76 (Nat.le_of_ble_eq_true rfl) rfl ?_
      refine gk_weak [1, 2, 3, 5, 0] (L' := [(0, va_rf v0), (1, .double v1), (3, .int v3), (7, .double v7), (9, .double x3)]) rfl ?_
      exact p_M_rounded_b78 d v0 v1 v3 v7 x3 h1
  · refine gk_dconst0 (pc := 59) d_M_rounded_59 ?_
    exact gk_dret (pc := 60) rfl d_M_rounded_60 rfl
theorem p_M_rounded_b24 (d : Nat)  (v0 : Option Nat) (v1 : UInt64) (v3 : Int32) (v4 : Int32) (v5 : UInt64) (s0 : Int32) (h : gk_H) : gk_P gw_D (d + 2) y_M_rounded b_M_rounded 11 (some .double) [] (f_M_rounded_b24  v0 v1 v3 v4 v5 s0 h) 24 [(0, va_rf v0), (1, .double v1), (3, .int v3), (4, .int v4), (5, .double v5)] [.int s0] h := by
  unfold f_M_rounded_b24
  refine gk_callS (pc := 24) (d := (d + 1)) (w' := gv_D) (as := [.int s0]) (n := 1) d_M_rounded_24 rfl rfl (Nat.le_of_ble_eq_true rfl) tw_1883 tw_1884 tw_99 cw_M_tens hy_M_tens (Nat.le_of_ble_eq_true rfl) (p_M_tens (d + 1) s0 h) fun x1 h1 => ?_
  refine gk_dstore (pc := 27) (L' := [(7, .double x1), (0, va_rf v0), (1, .double v1), (3, .int v3), (4, .int v4), (5, .double v5)]) d_M_rounded_27 (Nat.le_of_ble_eq_true rfl) rfl ?_
  refine gk_iload_n (pc := 29) 3 d_M_rounded_29 rfl ?_
  refine gk_if_lt (pc := 30) 45 d_M_rounded_30 rfl (fun _ => ?_) (fun _ => ?_)
  · refine gk_dload (pc := 45) 5 d_M_rounded_45 rfl ?_
    refine gk_dload (pc := 47) 0 d_M_rounded_47 rfl ?_
    refine gk_ddivN (pc := 49) d_M_rounded_49 fun x2 => ?_
    refine gk_weak [1, 2, 3, 4, 0] (L' := [(0, va_rf v0), (1, .double v1), (3, .int v3), (4, .int v4), (7, .double x1)]) rfl ?_
    exact p_M_rounded_b50 d v0 v1 v3 v4 x1 x2 h1
  · refine gk_aload_n (pc := 33) 1 d_M_rounded_33 rfl ?_
    refine gk_dload (pc := 34) 5 d_M_rounded_34 rfl ?_
    refine gk_dload (pc := 36) 0 d_M_rounded_36 rfl ?_
    refine gk_dmulN (pc := 38) d_M_rounded_38 fun x3 => ?_
    refine gk_callV (pc := 39) (d := (d + 1)) (w' := gv_D) (as := [.double x3]) (n := 1) 7 d_M_rounded_39 rfl rfl rfl rfl (Nat.le_of_ble_eq_true rfl) tw_1903 tw_1905 tw_36 tw_99 cw_M_step hy_M_step (Nat.le_of_ble_eq_true rfl) (p_M_step d v0 x3 h1) fun x4 h2 => ?_
    refine gk_goto (pc := 42) 50 d_M_rounded_42 rfl ?_
    refine gk_weak [1, 2, 3, 4, 0] (L' := [(0, va_rf v0), (1, .double v1), (3, .int v3), (4, .int v4), (7, .double x1)]) rfl ?_
    exact p_M_rounded_b50 d v0 v1 v3 v4 x1 x4 h2
theorem p_M_rounded_b12 (d : Nat)  (v0 : Option Nat) (v1 : UInt64) (v3 : Int32) (v4 : Int32) (s0 : UInt64) (h : gk_H) : gk_P gw_D (d + 2) y_M_rounded b_M_rounded 11 (some .double) [] (f_M_rounded_b12  v0 v1 v3 v4 s0 h) 12 [(0, va_rf v0), (1, .double v1), (3, .int v3), (4, .int v4)] [.double s0] h := by
  unfold f_M_rounded_b12
  refine gk_dstore (pc := 12) (L' := [(5, .double s0), (0, va_rf v0), (1, .double v1), (3, .int v3), (4, .int v4)]) d_M_rounded_12 (Nat.le_of_ble_eq_true rfl) rfl ?_
  refine gk_iload_n (pc := 14) 3 d_M_rounded_14 rfl ?_
  refine gk_if_ge (pc := 15) 23 d_M_rounded_15 rfl (fun _ => ?_) (fun _ => ?_)
  · refine gk_iload_n (pc := 23) 3 d_M_rounded_23 rfl ?_
    refine gk_weak [1, 2, 3, 4, 0] (L' := [(0, va_rf v0), (1, .double v1), (3, .int v3), (4, .int v4), (5, .double s0)]) rfl ?_
    exact p_M_rounded_b24 d v0 v1 v3 v4 s0 v3 h
  · refine gk_iload_n (pc := 18) 3 d_M_rounded_18 rfl ?_
    refine gk_ineg (pc := 19) d_M_rounded_19 ?_
    refine gk_goto (pc := 20) 24 d_M_rounded_20 rfl ?_
    refine gk_weak [1, 2, 3, 4, 0] (L' := [(0, va_rf v0), (1, .double v1), (3, .int v3), (4, .int v4), (5, .double s0)]) rfl ?_
    exact p_M_rounded_b24 d v0 v1 v3 v4 s0 (-v3) h
theorem w_M_rounded (d : Nat) (a0 : Option Nat) (a1 : UInt64) (a2 : Int32) (a3 : Int32) (h : gk_H) : gk_P gw_D (d + 2) y_M_rounded b_M_rounded 11 (some .double) [] (f_M_rounded a0 a1 a2 a3 h) 0 [(0, va_rf a0), (1, .double a1), (3, .int a2), (4, .int a3)] [] h := by
  unfold f_M_rounded
  refine gk_dload_n (pc := 0) 1 d_M_rounded_0 rfl ?_
  refine gk_dconst0 (pc := 1) d_M_rounded_1 ?_
  refine gk_dcmp (pc := 2) d_M_rounded_2 ?_
  refine gk_if_ge (pc := 3) 11 d_M_rounded_3 rfl (fun _ => ?_) (fun _ => ?_)
  · refine gk_dload_n (pc := 11) 1 d_M_rounded_11 rfl ?_
    exact p_M_rounded_b12 d a0 a1 a2 a3 a1 h
  · refine gk_dload_n (pc := 6) 1 d_M_rounded_6 rfl ?_
    refine gk_dneg (pc := 7) d_M_rounded_7 ?_
    refine gk_goto (pc := 8) 12 d_M_rounded_8 rfl ?_
    exact p_M_rounded_b12 d a0 a1 a2 a3 (FP.dneg a1) h
theorem p_M_rounded (d : Nat) (a0 : Option Nat) (a1 : UInt64) (a2 : Int32) (a3 : Int32) (h : gk_H) : ∀ r h1, f_M_rounded a0 a1 a2 a3 h = some (r, h1) → gk_M (d + 2) y_M_rounded b_M_rounded 11 (some .double) [va_rf a0, .double a1, .int a2, .int a3] h (.inl (gv_D r)) h1 :=
  fun r h1 e => gk_M_of2 (by decide +kernel) (by simp [lv_args, gk_cat_rf, gk_catI, gk_catJ, gk_catD, gv_V, gv_I, gv_J, gv_D, gv_R]) (by simp [lg_sl, gk_cat_rf, gk_catI, gk_catJ, gk_catD, gv_V, gv_I, gv_J, gv_D, gv_R]) (w_M_rounded d a0 a1 a2 a3 h r h1 e)
theorem d_M_ceiling_0 : decode b_M_ceiling 0 = .ok (.dconst 0, 1) := by decide +kernel
theorem d_M_ceiling_1 : decode b_M_ceiling 1 = .ok (.dconst 0, 1) := by decide +kernel
theorem d_M_ceiling_2 : decode b_M_ceiling 2 = .ok (.dload_n 0, 1) := by decide +kernel
theorem d_M_ceiling_3 : decode b_M_ceiling 3 = .ok (.dsub, 1) := by decide +kernel
theorem d_M_ceiling_4 : decode b_M_ceiling 4 = .ok (.invokestatic 227, 3) := by decide +kernel
theorem d_M_ceiling_7 : decode b_M_ceiling 7 = .ok (.dsub, 1) := by decide +kernel
theorem d_M_ceiling_8 : decode b_M_ceiling 8 = .ok (.dreturn, 1) := by decide +kernel
theorem w_M_ceiling (d : Nat) (a0 : UInt64) (h : gk_H) : gk_P gw_D (d + 1) y_M_ceiling b_M_ceiling 2 (some .double) [] (f_M_ceiling a0 h) 0 [(0, .double a0)] [] h := by
  unfold f_M_ceiling
  refine gk_dconst0 (pc := 0) d_M_ceiling_0 ?_
  refine gk_dconst0 (pc := 1) d_M_ceiling_1 ?_
  refine gk_dload_n (pc := 2) 0 d_M_ceiling_2 rfl ?_
  refine gk_dsubN (pc := 3) d_M_ceiling_3 fun x1 => ?_
  refine gk_callS (pc := 4) (d := d) (w' := gv_D) (as := [.double x1]) (n := 1) d_M_ceiling_4 rfl rfl (Nat.le_of_ble_eq_true rfl) tw_2027 tw_2028 tw_99 cw_M_floor hy_M_floor (Nat.le_of_ble_eq_true rfl) (p_M_floor d x1 h) fun x2 h1 => ?_
  refine gk_dsubN (pc := 7) d_M_ceiling_7 fun x3 => ?_
  exact gk_dret (pc := 8) rfl d_M_ceiling_8 rfl
theorem p_M_ceiling (d : Nat) (a0 : UInt64) (h : gk_H) : ∀ r h1, f_M_ceiling a0 h = some (r, h1) → gk_M (d + 1) y_M_ceiling b_M_ceiling 2 (some .double) [.double a0] h (.inl (gv_D r)) h1 :=
  fun r h1 e => gk_M_of2 (by decide +kernel) (by simp [lv_args, gk_cat_rf, gk_catI, gk_catJ, gk_catD, gv_V, gv_I, gv_J, gv_D, gv_R]) (by simp [lg_sl, gk_cat_rf, gk_catI, gk_catJ, gk_catD, gv_V, gv_I, gv_J, gv_D, gv_R]) (w_M_ceiling d a0 h r h1 e)
theorem d_M_steps_0 : decode b_M_steps 0 = .ok (.iload_n 1, 1) := by decide +kernel
theorem d_M_steps_1 : decode b_M_steps 1 = .ok (.bipush 31, 2) := by decide +kernel
theorem d_M_steps_3 : decode b_M_steps 3 = .ok (.if_icmp .ge 85, 3) := by decide +kernel
theorem d_M_steps_6 : decode b_M_steps 6 = .ok (.dload_n 2, 1) := by decide +kernel
theorem d_M_steps_7 : decode b_M_steps 7 = .ok (.dconst 0, 1) := by decide +kernel
theorem d_M_steps_8 : decode b_M_steps 8 = .ok (.dcmp .g, 1) := by decide +kernel
theorem d_M_steps_9 : decode b_M_steps 9 = .ok (.ifCond .ge 8, 3) := by decide +kernel
theorem d_M_steps_12 : decode b_M_steps 12 = .ok (.dload_n 2, 1) := by decide +kernel
theorem d_M_steps_13 : decode b_M_steps 13 = .ok (.dneg, 1) := by decide +kernel
theorem d_M_steps_14 : decode b_M_steps 14 = .ok (.goto 4, 3) := by decide +kernel
theorem d_M_steps_17 : decode b_M_steps 17 = .ok (.dload_n 2, 1) := by decide +kernel
theorem d_M_steps_18 : decode b_M_steps 18 = .ok (.invokestatic 351, 3) := by decide +kernel
theorem d_M_steps_21 : decode b_M_steps 21 = .ok (.dstore 6, 2) := by decide +kernel
theorem d_M_steps_23 : decode b_M_steps 23 = .ok (.dload 6, 2) := by decide +kernel
theorem d_M_steps_25 : decode b_M_steps 25 = .ok (.ldc2_w 140, 3) := by decide +kernel
theorem d_M_steps_28 : decode b_M_steps 28 = .ok (.dcmp .g, 1) := by decide +kernel
theorem d_M_steps_29 : decode b_M_steps 29 = .ok (.ifCond .ge 19, 3) := by decide +kernel
theorem d_M_steps_32 : decode b_M_steps 32 = .ok (.dload 6, 2) := by decide +kernel
theorem d_M_steps_34 : decode b_M_steps 34 = .ok (.d2l, 1) := by decide +kernel
theorem d_M_steps_35 : decode b_M_steps 35 = .ok (.ldc2_w 364, 3) := by decide +kernel
theorem d_M_steps_38 : decode b_M_steps 38 = .ok (.lrem, 1) := by decide +kernel
theorem d_M_steps_39 : decode b_M_steps 39 = .ok (.lconst 1, 1) := by decide +kernel
theorem d_M_steps_40 : decode b_M_steps 40 = .ok (.lcmp, 1) := by decide +kernel
theorem d_M_steps_41 : decode b_M_steps 41 = .ok (.ifCond .ne 7, 3) := by decide +kernel
theorem d_M_steps_44 : decode b_M_steps 44 = .ok (.iconst 1, 1) := by decide +kernel
theorem d_M_steps_45 : decode b_M_steps 45 = .ok (.goto 4, 3) := by decide +kernel
theorem d_M_steps_48 : decode b_M_steps 48 = .ok (.iconst 0, 1) := by decide +kernel
theorem d_M_steps_49 : decode b_M_steps 49 = .ok (.istore 8, 2) := by decide +kernel
theorem d_M_steps_51 : decode b_M_steps 51 = .ok (.iload 8, 2) := by decide +kernel
theorem d_M_steps_53 : decode b_M_steps 53 = .ok (.iload_n 1, 1) := by decide +kernel
theorem d_M_steps_54 : decode b_M_steps 54 = .ok (.bipush 30, 2) := by decide +kernel
theorem d_M_steps_56 : decode b_M_steps 56 = .ok (.if_icmp .ne 7, 3) := by decide +kernel
theorem d_M_steps_59 : decode b_M_steps 59 = .ok (.iconst 1, 1) := by decide +kernel
theorem d_M_steps_60 : decode b_M_steps 60 = .ok (.goto 4, 3) := by decide +kernel
theorem d_M_steps_63 : decode b_M_steps 63 = .ok (.iconst 0, 1) := by decide +kernel
theorem d_M_steps_64 : decode b_M_steps 64 = .ok (.if_icmp .eq 9, 3) := by decide +kernel
theorem d_M_steps_67 : decode b_M_steps 67 = .ok (.dload 6, 2) := by decide +kernel
theorem d_M_steps_69 : decode b_M_steps 69 = .ok (.dconst 1, 1) := by decide +kernel
theorem d_M_steps_70 : decode b_M_steps 70 = .ok (.dadd, 1) := by decide +kernel
theorem d_M_steps_71 : decode b_M_steps 71 = .ok (.dstore 6, 2) := by decide +kernel
theorem d_M_steps_73 : decode b_M_steps 73 = .ok (.dload_n 2, 1) := by decide +kernel
theorem d_M_steps_74 : decode b_M_steps 74 = .ok (.dconst 0, 1) := by decide +kernel
theorem d_M_steps_75 : decode b_M_steps 75 = .ok (.dcmp .g, 1) := by decide +kernel
theorem d_M_steps_76 : decode b_M_steps 76 = .ok (.ifCond .ge 9, 3) := by decide +kernel
theorem d_M_steps_79 : decode b_M_steps 79 = .ok (.dload 6, 2) := by decide +kernel
theorem d_M_steps_81 : decode b_M_steps 81 = .ok (.dneg, 1) := by decide +kernel
theorem d_M_steps_82 : decode b_M_steps 82 = .ok (.goto 5, 3) := by decide +kernel
theorem d_M_steps_85 : decode b_M_steps 85 = .ok (.dload 6, 2) := by decide +kernel
theorem d_M_steps_87 : decode b_M_steps 87 = .ok (.dreturn, 1) := by decide +kernel
theorem d_M_steps_88 : decode b_M_steps 88 = .ok (.dload 4, 2) := by decide +kernel
theorem d_M_steps_90 : decode b_M_steps 90 = .ok (.dconst 0, 1) := by decide +kernel
theorem d_M_steps_91 : decode b_M_steps 91 = .ok (.dcmp .l, 1) := by decide +kernel
theorem d_M_steps_92 : decode b_M_steps 92 = .ok (.ifCond .ne 22, 3) := by decide +kernel
theorem d_M_steps_95 : decode b_M_steps 95 = .ok (.iload_n 1, 1) := by decide +kernel
theorem d_M_steps_96 : decode b_M_steps 96 = .ok (.bipush 32, 2) := by decide +kernel
theorem d_M_steps_98 : decode b_M_steps 98 = .ok (.if_icmp .ne 14, 3) := by decide +kernel
theorem d_M_steps_101 : decode b_M_steps 101 = .ok (.dload_n 2, 1) := by decide +kernel
theorem d_M_steps_102 : decode b_M_steps 102 = .ok (.dconst 0, 1) := by decide +kernel
theorem d_M_steps_103 : decode b_M_steps 103 = .ok (.dcmp .l, 1) := by decide +kernel
theorem d_M_steps_104 : decode b_M_steps 104 = .ok (.ifCond .eq 8, 3) := by decide +kernel
theorem d_M_steps_107 : decode b_M_steps 107 = .ok (.aload_n 0, 1) := by decide +kernel
theorem d_M_steps_108 : decode b_M_steps 108 = .ok (.iconst 2, 1) := by decide +kernel
theorem d_M_steps_109 : decode b_M_steps 109 = .ok (.invokevirtual 58, 3) := by decide +kernel
theorem d_M_steps_112 : decode b_M_steps 112 = .ok (.dconst 0, 1) := by decide +kernel
theorem d_M_steps_113 : decode b_M_steps 113 = .ok (.dreturn, 1) := by decide +kernel
theorem d_M_steps_114 : decode b_M_steps 114 = .ok (.dload_n 2, 1) := by decide +kernel
theorem d_M_steps_115 : decode b_M_steps 115 = .ok (.dconst 0, 1) := by decide +kernel
theorem d_M_steps_116 : decode b_M_steps 116 = .ok (.dcmp .l, 1) := by decide +kernel
theorem d_M_steps_117 : decode b_M_steps 117 = .ok (.ifCond .le 18, 3) := by decide +kernel
theorem d_M_steps_120 : decode b_M_steps 120 = .ok (.dload 4, 2) := by decide +kernel
theorem d_M_steps_122 : decode b_M_steps 122 = .ok (.dconst 0, 1) := by decide +kernel
theorem d_M_steps_123 : decode b_M_steps 123 = .ok (.dcmp .g, 1) := by decide +kernel
theorem d_M_steps_124 : decode b_M_steps 124 = .ok (.ifCond .ge 11, 3) := by decide +kernel
theorem d_M_steps_127 : decode b_M_steps 127 = .ok (.aload_n 0, 1) := by decide +kernel
theorem d_M_steps_128 : decode b_M_steps 128 = .ok (.bipush 6, 2) := by decide +kernel
theorem d_M_steps_130 : decode b_M_steps 130 = .ok (.invokevirtual 58, 3) := by decide +kernel
theorem d_M_steps_133 : decode b_M_steps 133 = .ok (.dconst 0, 1) := by decide +kernel
theorem d_M_steps_134 : decode b_M_steps 134 = .ok (.dreturn, 1) := by decide +kernel
theorem d_M_steps_135 : decode b_M_steps 135 = .ok (.aload_n 0, 1) := by decide +kernel
theorem d_M_steps_136 : decode b_M_steps 136 = .ok (.dload_n 2, 1) := by decide +kernel
theorem d_M_steps_137 : decode b_M_steps 137 = .ok (.dload 4, 2) := by decide +kernel
theorem d_M_steps_139 : decode b_M_steps 139 = .ok (.ddiv, 1) := by decide +kernel
theorem d_M_steps_140 : decode b_M_steps 140 = .ok (.invokevirtual 217, 3) := by decide +kernel
theorem d_M_steps_143 : decode b_M_steps 143 = .ok (.dstore 6, 2) := by decide +kernel
theorem d_M_steps_145 : decode b_M_steps 145 = .ok (.aload_n 0, 1) := by decide +kernel
theorem d_M_steps_146 : decode b_M_steps 146 = .ok (.getfield 62, 3) := by decide +kernel
theorem d_M_steps_149 : decode b_M_steps 149 = .ok (.ifCond .le 5, 3) := by decide +kernel
theorem d_M_steps_152 : decode b_M_steps 152 = .ok (.dconst 0, 1) := by decide +kernel
theorem d_M_steps_153 : decode b_M_steps 153 = .ok (.dreturn, 1) := by decide +kernel
theorem d_M_steps_154 : decode b_M_steps 154 = .ok (.aload_n 0, 1) := by decide +kernel
theorem d_M_steps_155 : decode b_M_steps 155 = .ok (.dload 4, 2) := by decide +kernel
theorem d_M_steps_157 : decode b_M_steps 157 = .ok (.iload_n 1, 1) := by decide +kernel
theorem d_M_steps_158 : decode b_M_steps 158 = .ok (.bipush 31, 2) := by decide +kernel
theorem d_M_steps_160 : decode b_M_steps 160 = .ok (.if_icmp .ne 11, 3) := by decide +kernel
theorem d_M_steps_163 : decode b_M_steps 163 = .ok (.dload 6, 2) := by decide +kernel
theorem d_M_steps_165 : decode b_M_steps 165 = .ok (.invokestatic 351, 3) := by decide +kernel
theorem d_M_steps_168 : decode b_M_steps 168 = .ok (.goto 8, 3) := by decide +kernel
theorem d_M_steps_171 : decode b_M_steps 171 = .ok (.dload 6, 2) := by decide +kernel
theorem d_M_steps_173 : decode b_M_steps 173 = .ok (.invokestatic 227, 3) := by decide +kernel
theorem d_M_steps_176 : decode b_M_steps 176 = .ok (.dmul, 1) := by decide +kernel
theorem d_M_steps_177 : decode b_M_steps 177 = .ok (.invokevirtual 217, 3) := by decide +kernel
theorem d_M_steps_180 : decode b_M_steps 180 = .ok (.dreturn, 1) := by decide +kernel
theorem p_M_steps_b176 (d : Nat)  (s0 : Option Nat) (s1 : UInt64) (s2 : UInt64) (h : gk_H) : gk_P gw_D (d + 2) y_M_steps b_M_steps 9 (some .double) [] (f_M_steps_b176  s0 s1 s2 h) 176 [] [.double s2, .double s1, va_rf s0] h := by
  unfold f_M_steps_b176
  refine gk_dmulN (pc := 176) d_M_steps_176 fun x1 => ?_
  refine gk_callV (pc := 177) (d := (d + 1)) (w' := gv_D) (as := [.double x1]) (n := 1) 7 d_M_steps_177 rfl rfl rfl rfl (Nat.le_of_ble_eq_true rfl) tw_1903 tw_1905 tw_36 tw_99 cw_M_step hy_M_step (Nat.le_of_ble_eq_true rfl) (p_M_step d s0 x1 h) fun x2 h1 => ?_
  exact gk_dret (pc := 180) rfl d_M_steps_180 rfl
theorem p_M_steps_b135 (d : Nat)  (v0 : Option Nat) (v1 : Int32) (v2 : UInt64) (v4 : UInt64) (h : gk_H) : gk_P gw_D (d + 2) y_M_steps b_M_steps 9 (some .double) [] (f_M_steps_b135  v0 v1 v2 v4 h) 135 [(0, va_rf v0), (1, .int v1), (2, .double v2), (4, .double v4)] [] h := by
  unfold f_M_steps_b135
  refine gk_aload_n (pc := 135) 0 d_M_steps_135 rfl ?_
  refine gk_dload_n (pc := 136) 2 d_M_steps_136 rfl ?_
  refine gk_dload (pc := 137) 3 d_M_steps_137 rfl ?_
  refine gk_ddivN (pc := 139) d_M_steps_139 fun x1 => ?_
  refine gk_callV (pc := 140) (d := (d + 1)) (w' := gv_D) (as := [.double x1]) (n := 1) 7 d_M_steps_140 rfl rfl rfl rfl (Nat.le_of_ble_eq_true rfl) tw_1903 tw_1905 tw_36 tw_99 cw_M_step hy_M_step (Nat.le_of_ble_eq_true rfl) (p_M_step d v0 x1 h) fun x2 h1 => ?_
  refine gk_dstore (pc := 143) (L' := [(6, .double x2), (0, va_rf v0), (1, .int v1), (2, .double v2), (4, .double v4)]) d_M_steps_143 (Nat.le_of_ble_eq_true rfl) rfl ?_
  refine gk_aload_n (pc := 145) 1 d_M_steps_145 rfl ?_
  refine gk_getI (pc := 146) 7 11 d_M_steps_146 rfl (Nat.le_of_ble_eq_true rfl) tw_1656 fun x3 => ?_
  refine gk_if_le (pc := 149) 154 d_M_steps_149 rfl (fun _ => ?_) (fun _ => ?_)
  · refine gk_aload_n (pc := 154) 1 d_M_steps_154 rfl ?_
    refine gk_dload (pc := 155) 4 d_M_steps_155 rfl ?_
    refine gk_iload_n (pc := 157) 2 d_M_steps_157 rfl ?_
    refine gk_bipush (pc := 158) (31 : Int32) d_M_steps_158 rfl ?_
    refine gk_icmp_ne (pc := 160) 171 d_M_steps_160 rfl (fun _ => ?_) (fun _ => ?_)
    · refine gk_dload (pc := 163) 0 d_M_steps_163 rfl ?_
      refine gk_callS (pc := 165) (d := (d + 1)) (w' := gv_D) (as := [.double x2]) (n := 1) d_M_steps_165 rfl rfl (by simp [gk_cat_rf, gk_catI, gk_catJ, gk_catD, gv_V, gv_I, gv_J, gv_D, gv_R]) tw_2034 tw_2035 tw_99 cw_M_ceiling hy_M_ceiling (Nat.le_of_ble_eq_true rfl) (p_M_ceiling d x2 h1) fun x4 h2 => ?_
      refine gk_goto (pc := 168) 176 d_M_steps_168 rfl ?_
      refine gk_weak [] (L' := []) rfl ?_
      exact p_M_steps_b176 d v0 v4 x4 h2
    · refine gk_dload (pc := 171) 0 d_M_steps_171 rfl ?_
      refine gk_callS (pc := 173) (d := (d + 1)) (w' := gv_D) (as := [.double x2]) (n := 1) d_M_steps_173 rfl rfl (by simp [gk_cat_rf, gk_catI, gk_catJ, gk_catD, gv_V, gv_I, gv_J, gv_D, gv_R]) tw_2027 tw_2028 tw_99 cw_M_floor hy_M_floor (Nat.le_of_ble_eq_true rfl) (p_M_floor (d + 1) x2 h1) fun x5 h3 => ?_
      refine gk_weak [] (L' := []) rfl ?_
      exact p_M_steps_b176 d v0 v4 x5 h3
  · refine gk_dconst0 (pc := 152) d_M_steps_152 ?_
    exact gk_dret (pc := 153) rfl d_M_steps_153 rfl
theorem p_M_steps_b112 (d : Nat)   (h : gk_H) : gk_P gw_D (d + 2) y_M_steps b_M_steps 9 (some .double) [] (f_M_steps_b112   h) 112 [] [] h := by
  unfold f_M_steps_b112
  refine gk_dconst0 (pc := 112) d_M_steps_112 ?_
  exact gk_dret (pc := 113) rfl d_M_steps_113 rfl
theorem p_M_steps_b87 (d : Nat)  (s0 : UInt64) (h : gk_H) : gk_P gw_D (d + 2) y_M_steps b_M_steps 9 (some .double) [] (f_M_steps_b87  s0 h) 87 [] [.double s0] h := by
  unfold f_M_steps_b87
  exact gk_dret (pc := 87) rfl d_M_steps_87 rfl
theorem p_M_steps_b73 (d : Nat)  (v2 : UInt64) (v6 : UInt64) (h : gk_H) : gk_P gw_D (d + 2) y_M_steps b_M_steps 9 (some .double) [] (f_M_steps_b73  v2 v6 h) 73 [(2, .double v2), (6, .double v6)] [] h := by
  unfold f_M_steps_b73
  refine gk_dload_n (pc := 73) 0 d_M_steps_73 rfl ?_
  refine gk_dconst0 (pc := 74) d_M_steps_74 ?_
  refine gk_dcmp (pc := 75) d_M_steps_75 ?_
  refine gk_if_ge (pc := 76) 85 d_M_steps_76 rfl (fun _ => ?_) (fun _ => ?_)
  · refine gk_dload (pc := 85) 1 d_M_steps_85 rfl ?_
    refine gk_weak [] (L' := []) rfl ?_
    exact p_M_steps_b87 d v6 h
  · refine gk_dload (pc := 79) 1 d_M_steps_79 rfl ?_
    refine gk_dneg (pc := 81) d_M_steps_81 ?_
    refine gk_goto (pc := 82) 87 d_M_steps_82 rfl ?_
    refine gk_weak [] (L' := []) rfl ?_
    exact p_M_steps_b87 d (FP.dneg v6) h
theorem p_M_steps_b64 (d : Nat)  (v2 : UInt64) (v6 : UInt64) (s0 : Int32) (s1 : Int32) (h : gk_H) : gk_P gw_D (d + 2) y_M_steps b_M_steps 9 (some .double) [] (f_M_steps_b64  v2 v6 s0 s1 h) 64 [(2, .double v2), (6, .double v6)] [.int s1, .int s0] h := by
  unfold f_M_steps_b64
  refine gk_icmp_eq (pc := 64) 73 d_M_steps_64 rfl (fun _ => ?_) (fun _ => ?_)
  · exact p_M_steps_b73 d v2 v6 h
  · refine gk_dload (pc := 67) 1 d_M_steps_67 rfl ?_
    refine gk_dconst1 (pc := 69) d_M_steps_69 ?_
    refine gk_daddN (pc := 70) d_M_steps_70 fun x1 => ?_
    refine gk_dstore (pc := 71) (L' := [(6, .double x1), (2, .double v2)]) d_M_steps_71 (Nat.le_of_ble_eq_true rfl) rfl ?_
    refine gk_weak [1, 0] (L' := [(2, .double v2), (6, .double x1)]) rfl ?_
    exact p_M_steps_b73 d v2 x1 h
theorem p_M_steps_b49 (d : Nat)  (v1 : Int32) (v2 : UInt64) (v6 : UInt64) (s0 : Int32) (h : gk_H) : gk_P gw_D (d + 2) y_M_steps b_M_steps 9 (some .double) [] (f_M_steps_b49  v1 v2 v6 s0 h) 49 [(1, .int v1), (2, .double v2), (6, .double v6)] [.int s0] h := by
  unfold f_M_steps_b49
  refine gk_istore (pc := 49) (L' := [(8, .int s0), (1, .int v1), (2, .double v2), (6, .double v6)]) d_M_steps_49 (Nat.le_of_ble_eq_true rfl) rfl ?_
  refine gk_iload (pc := 51) 0 d_M_steps_51 rfl ?_
  refine gk_iload_n (pc := 53) 1 d_M_steps_53 rfl ?_
  refine gk_bipush (pc := 54) (30 : Int32) d_M_steps_54 rfl ?_
  refine gk_icmp_ne (pc := 56) 63 d_M_steps_56 rfl (fun _ => ?_) (fun _ => ?_)
  · refine gk_iconst (pc := 59) (1 : Int32) d_M_steps_59 rfl ?_
    refine gk_goto (pc := 60) 64 d_M_steps_60 rfl ?_
    refine gk_weak [2, 3] (L' := [(2, .double v2), (6, .double v6)]) rfl ?_
    exact p_M_steps_b64 d v2 v6 s0 (1 : Int32) h
  · refine gk_iconst (pc := 63) (0 : Int32) d_M_steps_63 rfl ?_
    refine gk_weak [2, 3] (L' := [(2, .double v2), (6, .double v6)]) rfl ?_
    exact p_M_steps_b64 d v2 v6 s0 (0 : Int32) h
theorem p_M_steps_b48 (d : Nat)  (v1 : Int32) (v2 : UInt64) (v6 : UInt64) (h : gk_H) : gk_P gw_D (d + 2) y_M_steps b_M_steps 9 (some .double) [] (f_M_steps_b48  v1 v2 v6 h) 48 [(1, .int v1), (2, .double v2), (6, .double v6)] [] h := by
  unfold f_M_steps_b48
  refine gk_iconst (pc := 48) (0 : Int32) d_M_steps_48 rfl ?_
  exact p_M_steps_b49 d v1 v2 v6 (0 : Int32) h
theorem p_M_steps_b18 (d : Nat)  (v1 : Int32) (v2 : UInt64) (s0 : UInt64) (h : gk_H) : gk_P gw_D (d + 2) y_M_steps b_M_steps 9 (some .double) [] (f_M_steps_b18  v1 v2 s0 h) 18 [(1, .int v1), (2, .double v2)] [.double s0] h := by
  unfold f_M_steps_b18
  refine gk_callS (pc := 18) (d := (d + 1)) (w' := gv_D) (as := [.double s0]) (n := 1) d_M_steps_18 rfl rfl (Nat.le_of_ble_eq_true rfl) tw_2034 tw_2035 tw_99 cw_M_ceiling hy_M_ceiling (Nat.le_of_ble_eq_true rfl) (p_M_ceiling d s0 h) fun x1 h1 => ?_
  refine gk_dstore (pc := 21) (L' := [(6, .double x1), (1, .int v1), (2, .double v2)]) d_M_steps_21 (Nat.le_of_ble_eq_true rfl) rfl ?_
  refine gk_dload (pc := 23) 0 d_M_steps_23 rfl ?_
  refine gk_ldc2d (pc := 25) tw_1901 d_M_steps_25 ?_
  refine gk_dcmp (pc := 28) d_M_steps_28 ?_
  refine gk_if_ge (pc := 29) 48 d_M_steps_29 rfl (fun _ => ?_) (fun _ => ?_)
  · refine gk_weak [1, 2, 0] (L' := [(1, .int v1), (2, .double v2), (6, .double x1)]) rfl ?_
    exact p_M_steps_b48 d v1 v2 x1 h1
  · refine gk_dload (pc := 32) 0 d_M_steps_32 rfl ?_
    refine gk_d2l (pc := 34) d_M_steps_34 ?_
    refine gk_ldc2 (pc := 35) tw_2037 d_M_steps_35 ?_
    refine gk_lrem (pc := 38) (by decide) d_M_steps_38 ?_
    refine gk_lconst (pc := 39) (1 : Int64) d_M_steps_39 rfl ?_
    refine gk_lcmp (pc := 40) d_M_steps_40 ?_
    refine gk_if_ne (pc := 41) 48 d_M_steps_41 rfl (fun _ => ?_) (fun _ => ?_)
    · refine gk_iconst (pc := 44) (1 : Int32) d_M_steps_44 rfl ?_
      refine gk_goto (pc := 45) 49 d_M_steps_45 rfl ?_
      refine gk_weak [1, 2, 0] (L' := [(1, .int v1), (2, .double v2), (6, .double x1)]) rfl ?_
      exact p_M_steps_b49 d v1 v2 x1 (1 : Int32) h1
    · refine gk_weak [1, 2, 0] (L' := [(1, .int v1), (2, .double v2), (6, .double x1)]) rfl ?_
      exact p_M_steps_b48 d v1 v2 x1 h1
theorem w_M_steps (d : Nat) (a0 : Option Nat) (a1 : Int32) (a2 : UInt64) (a3 : UInt64) (h : gk_H) : gk_P gw_D (d + 2) y_M_steps b_M_steps 9 (some .double) [] (f_M_steps a0 a1 a2 a3 h) 0 [(0, va_rf a0), (1, .int a1), (2, .double a2), (4, .double a3)] [] h := by
  unfold f_M_steps
  refine gk_iload_n (pc := 0) 1 d_M_steps_0 rfl ?_
  refine gk_bipush (pc := 1) (31 : Int32) d_M_steps_1 rfl ?_
  refine gk_icmp_ge (pc := 3) 88 d_M_steps_3 rfl (fun _ => ?_) (fun _ => ?_)
  · refine gk_dload (pc := 88) 3 d_M_steps_88 rfl ?_
    refine gk_dconst0 (pc := 90) d_M_steps_90 ?_
    refine gk_dcmp (pc := 91) d_M_steps_91 ?_
    refine gk_if_ne (pc := 92) 114 d_M_steps_92 rfl (fun _ => ?_) (fun _ => ?_)
    · refine gk_iload_n (pc := 95) 1 d_M_steps_95 rfl ?_
      refine gk_bipush (pc := 96) (32 : Int32) d_M_steps_96 rfl ?_
      refine gk_icmp_ne (pc := 98) 112 d_M_steps_98 rfl (fun _ => ?_) (fun _ => ?_)
      · refine gk_dload_n (pc := 101) 2 d_M_steps_101 rfl ?_
        refine gk_dconst0 (pc := 102) d_M_steps_102 ?_
        refine gk_dcmp (pc := 103) d_M_steps_103 ?_
        refine gk_if_eq (pc := 104) 112 d_M_steps_104 rfl (fun _ => ?_) (fun _ => ?_)
        · refine gk_weak [] (L' := []) rfl ?_
          exact p_M_steps_b112 d h
        · refine gk_aload_n (pc := 107) 0 d_M_steps_107 rfl ?_
          refine gk_iconst (pc := 108) (2 : Int32) d_M_steps_108 rfl ?_
          refine gk_callV (pc := 109) (d := (d + 1)) (w' := gv_V) (as := [.int (2 : Int32)]) (n := 1) 7 d_M_steps_109 rfl rfl rfl rfl (Nat.le_of_ble_eq_true rfl) tw_1805 tw_1807 tw_21 tw_99 cw_M_fail hy_M_fail (Nat.le_of_ble_eq_true rfl) (p_M_fail (d + 1) a0 (2 : Int32) h) fun _ h1 => ?_
          refine gk_weak [] (L' := []) rfl ?_
          exact p_M_steps_b112 d h1
      · refine gk_weak [] (L' := []) rfl ?_
        exact p_M_steps_b112 d h
    · refine gk_dload_n (pc := 114) 2 d_M_steps_114 rfl ?_
      refine gk_dconst0 (pc := 115) d_M_steps_115 ?_
      refine gk_dcmp (pc := 116) d_M_steps_116 ?_
      refine gk_if_le (pc := 117) 135 d_M_steps_117 rfl (fun _ => ?_) (fun _ => ?_)
      · exact p_M_steps_b135 d a0 a1 a2 a3 h
      · refine gk_dload (pc := 120) 3 d_M_steps_120 rfl ?_
        refine gk_dconst0 (pc := 122) d_M_steps_122 ?_
        refine gk_dcmp (pc := 123) d_M_steps_123 ?_
        refine gk_if_ge (pc := 124) 135 d_M_steps_124 rfl (fun _ => ?_) (fun _ => ?_)
        · exact p_M_steps_b135 d a0 a1 a2 a3 h
        · refine gk_aload_n (pc := 127) 0 d_M_steps_127 rfl ?_
          refine gk_bipush (pc := 128) (6 : Int32) d_M_steps_128 rfl ?_
          refine gk_callV (pc := 130) (d := (d + 1)) (w' := gv_V) (as := [.int (6 : Int32)]) (n := 1) 7 d_M_steps_130 rfl rfl rfl rfl (Nat.le_of_ble_eq_true rfl) tw_1805 tw_1807 tw_21 tw_99 cw_M_fail hy_M_fail (Nat.le_of_ble_eq_true rfl) (p_M_fail (d + 1) a0 (6 : Int32) h) fun _ h2 => ?_
          refine gk_dconst0 (pc := 133) d_M_steps_133 ?_
          exact gk_dret (pc := 134) rfl d_M_steps_134 rfl
  · refine gk_dload_n (pc := 6) 2 d_M_steps_6 rfl ?_
    refine gk_dconst0 (pc := 7) d_M_steps_7 ?_
    refine gk_dcmp (pc := 8) d_M_steps_8 ?_
    refine gk_if_ge (pc := 9) 17 d_M_steps_9 rfl (fun _ => ?_) (fun _ => ?_)
    · refine gk_dload_n (pc := 17) 2 d_M_steps_17 rfl ?_
      refine gk_weak [1, 2] (L' := [(1, .int a1), (2, .double a2)]) rfl ?_
      exact p_M_steps_b18 d a1 a2 a2 h
    · refine gk_dload_n (pc := 12) 2 d_M_steps_12 rfl ?_
      refine gk_dneg (pc := 13) d_M_steps_13 ?_
      refine gk_goto (pc := 14) 18 d_M_steps_14 rfl ?_
      refine gk_weak [1, 2] (L' := [(1, .int a1), (2, .double a2)]) rfl ?_
      exact p_M_steps_b18 d a1 a2 (FP.dneg a2) h
theorem p_M_steps (d : Nat) (a0 : Option Nat) (a1 : Int32) (a2 : UInt64) (a3 : UInt64) (h : gk_H) : ∀ r h1, f_M_steps a0 a1 a2 a3 h = some (r, h1) → gk_M (d + 2) y_M_steps b_M_steps 9 (some .double) [va_rf a0, .int a1, .double a2, .double a3] h (.inl (gv_D r)) h1 :=
  fun r h1 e => gk_M_of2 (by decide +kernel) (by simp [lv_args, gk_cat_rf, gk_catI, gk_catJ, gk_catD, gv_V, gv_I, gv_J, gv_D, gv_R]) (by simp [lg_sl, gk_cat_rf, gk_catI, gk_catJ, gk_catD, gv_V, gv_I, gv_J, gv_D, gv_R]) (w_M_steps d a0 a1 a2 a3 h r h1 e)
theorem d_M_modulo_0 : decode b_M_modulo 0 = .ok (.aload_n 0, 1) := by decide +kernel
theorem d_M_modulo_1 : decode b_M_modulo 1 = .ok (.dload_n 1, 1) := by decide +kernel
theorem d_M_modulo_2 : decode b_M_modulo 2 = .ok (.dload_n 3, 1) := by decide +kernel
theorem d_M_modulo_3 : decode b_M_modulo 3 = .ok (.invokevirtual 221, 3) := by decide +kernel
theorem d_M_modulo_6 : decode b_M_modulo 6 = .ok (.dstore 5, 2) := by decide +kernel
theorem d_M_modulo_8 : decode b_M_modulo 8 = .ok (.aload_n 0, 1) := by decide +kernel
theorem d_M_modulo_9 : decode b_M_modulo 9 = .ok (.getfield 62, 3) := by decide +kernel
theorem d_M_modulo_12 : decode b_M_modulo 12 = .ok (.ifCond .le 5, 3) := by decide +kernel
theorem d_M_modulo_15 : decode b_M_modulo 15 = .ok (.dconst 0, 1) := by decide +kernel
theorem d_M_modulo_16 : decode b_M_modulo 16 = .ok (.dreturn, 1) := by decide +kernel
theorem d_M_modulo_17 : decode b_M_modulo 17 = .ok (.aload_n 0, 1) := by decide +kernel
theorem d_M_modulo_18 : decode b_M_modulo 18 = .ok (.dload_n 3, 1) := by decide +kernel
theorem d_M_modulo_19 : decode b_M_modulo 19 = .ok (.dload 5, 2) := by decide +kernel
theorem d_M_modulo_21 : decode b_M_modulo 21 = .ok (.invokestatic 227, 3) := by decide +kernel
theorem d_M_modulo_24 : decode b_M_modulo 24 = .ok (.dmul, 1) := by decide +kernel
theorem d_M_modulo_25 : decode b_M_modulo 25 = .ok (.invokevirtual 217, 3) := by decide +kernel
theorem d_M_modulo_28 : decode b_M_modulo 28 = .ok (.dstore 7, 2) := by decide +kernel
theorem d_M_modulo_30 : decode b_M_modulo 30 = .ok (.aload_n 0, 1) := by decide +kernel
theorem d_M_modulo_31 : decode b_M_modulo 31 = .ok (.getfield 62, 3) := by decide +kernel
theorem d_M_modulo_34 : decode b_M_modulo 34 = .ok (.ifCond .le 7, 3) := by decide +kernel
theorem d_M_modulo_37 : decode b_M_modulo 37 = .ok (.dconst 0, 1) := by decide +kernel
theorem d_M_modulo_38 : decode b_M_modulo 38 = .ok (.goto 11, 3) := by decide +kernel
theorem d_M_modulo_41 : decode b_M_modulo 41 = .ok (.aload_n 0, 1) := by decide +kernel
theorem d_M_modulo_42 : decode b_M_modulo 42 = .ok (.dload_n 1, 1) := by decide +kernel
theorem d_M_modulo_43 : decode b_M_modulo 43 = .ok (.dload 7, 2) := by decide +kernel
theorem d_M_modulo_45 : decode b_M_modulo 45 = .ok (.dsub, 1) := by decide +kernel
theorem d_M_modulo_46 : decode b_M_modulo 46 = .ok (.invokevirtual 217, 3) := by decide +kernel
theorem d_M_modulo_49 : decode b_M_modulo 49 = .ok (.dreturn, 1) := by decide +kernel
theorem p_M_modulo_b49 (d : Nat)  (s0 : UInt64) (h : gk_H) : gk_P gw_D (d + 3) y_M_modulo b_M_modulo 9 (some .double) [] (f_M_modulo_b49  s0 h) 49 [] [.double s0] h := by
  unfold f_M_modulo_b49
  exact gk_dret (pc := 49) rfl d_M_modulo_49 rfl
theorem w_M_modulo (d : Nat) (a0 : Option Nat) (a1 : UInt64) (a2 : UInt64) (h : gk_H) : gk_P gw_D (d + 3) y_M_modulo b_M_modulo 9 (some .double) [] (f_M_modulo a0 a1 a2 h) 0 [(0, va_rf a0), (1, .double a1), (3, .double a2)] [] h := by
  unfold f_M_modulo
  refine gk_aload_n (pc := 0) 0 d_M_modulo_0 rfl ?_
  refine gk_dload_n (pc := 1) 1 d_M_modulo_1 rfl ?_
  refine gk_dload_n (pc := 2) 2 d_M_modulo_2 rfl ?_
  refine gk_callV (pc := 3) (d := (d + 2)) (w' := gv_D) (as := [.double a1, .double a2]) (n := 2) 7 d_M_modulo_3 rfl rfl rfl rfl (Nat.le_of_ble_eq_true rfl) tw_1912 tw_1914 tw_37 tw_99 cw_M_divide hy_M_divide (Nat.le_of_ble_eq_true rfl) (p_M_divide d a0 a1 a2 h) fun x1 h1 => ?_
  refine gk_dstore (pc := 6) (L' := [(5, .double x1), (0, va_rf a0), (1, .double a1), (3, .double a2)]) d_M_modulo_6 (Nat.le_of_ble_eq_true rfl) rfl ?_
  refine gk_aload_n (pc := 8) 1 d_M_modulo_8 rfl ?_
  refine gk_getI (pc := 9) 7 11 d_M_modulo_9 rfl (Nat.le_of_ble_eq_true rfl) tw_1656 fun x2 => ?_
  refine gk_if_le (pc := 12) 17 d_M_modulo_12 rfl (fun _ => ?_) (fun _ => ?_)
  · refine gk_aload_n (pc := 17) 1 d_M_modulo_17 rfl ?_
    refine gk_dload_n (pc := 18) 3 d_M_modulo_18 rfl ?_
    refine gk_dload (pc := 19) 0 d_M_modulo_19 rfl ?_
    refine gk_callS (pc := 21) (d := (d + 2)) (w' := gv_D) (as := [.double x1]) (n := 1) d_M_modulo_21 rfl rfl (by simp [gk_cat_rf, gk_catI, gk_catJ, gk_catD, gv_V, gv_I, gv_J, gv_D, gv_R]) tw_2027 tw_2028 tw_99 cw_M_floor hy_M_floor (Nat.le_of_ble_eq_true rfl) (p_M_floor (d + 2) x1 h1) fun x3 h2 => ?_
    refine gk_dmulN (pc := 24) d_M_modulo_24 fun x4 => ?_
    refine gk_callV (pc := 25) (d := (d + 2)) (w' := gv_D) (as := [.double x4]) (n := 1) 7 d_M_modulo_25 rfl rfl rfl rfl (Nat.le_of_ble_eq_true rfl) tw_1903 tw_1905 tw_36 tw_99 cw_M_step hy_M_step (Nat.le_of_ble_eq_true rfl) (p_M_step (d + 1) a0 x4 h2) fun x5 h3 => ?_
    refine gk_dstore (pc := 28) (L' := [(7, .double x5), (5, .double x1), (0, va_rf a0), (1, .double a1), (3, .double a2)]) d_M_modulo_28 (Nat.le_of_ble_eq_true rfl) rfl ?_
    refine gk_aload_n (pc := 30) 2 d_M_modulo_30 rfl ?_
    refine gk_getI (pc := 31) 7 11 d_M_modulo_31 rfl (Nat.le_of_ble_eq_true rfl) tw_1656 fun x6 => ?_
    refine gk_if_le (pc := 34) 41 d_M_modulo_34 rfl (fun _ => ?_) (fun _ => ?_)
    · refine gk_aload_n (pc := 41) 2 d_M_modulo_41 rfl ?_
      refine gk_dload_n (pc := 42) 3 d_M_modulo_42 rfl ?_
      refine gk_dload (pc := 43) 0 d_M_modulo_43 rfl ?_
      refine gk_dsubN (pc := 45) d_M_modulo_45 fun x7 => ?_
      refine gk_callV (pc := 46) (d := (d + 2)) (w' := gv_D) (as := [.double x7]) (n := 1) 7 d_M_modulo_46 rfl rfl rfl rfl (Nat.le_of_ble_eq_true rfl) tw_1903 tw_1905 tw_36 tw_99 cw_M_step hy_M_step (Nat.le_of_ble_eq_true rfl) (p_M_step (d + 1) a0 x7 h3) fun x8 h4 => ?_
      refine gk_weak [] (L' := []) rfl ?_
      exact p_M_modulo_b49 d x8 h4
    · refine gk_dconst0 (pc := 37) d_M_modulo_37 ?_
      refine gk_goto (pc := 38) 49 d_M_modulo_38 rfl ?_
      refine gk_weak [] (L' := []) rfl ?_
      exact p_M_modulo_b49 d (0x0000000000000000) h3
  · refine gk_dconst0 (pc := 15) d_M_modulo_15 ?_
    exact gk_dret (pc := 16) rfl d_M_modulo_16 rfl
theorem p_M_modulo (d : Nat) (a0 : Option Nat) (a1 : UInt64) (a2 : UInt64) (h : gk_H) : ∀ r h1, f_M_modulo a0 a1 a2 h = some (r, h1) → gk_M (d + 3) y_M_modulo b_M_modulo 9 (some .double) [va_rf a0, .double a1, .double a2] h (.inl (gv_D r)) h1 :=
  fun r h1 e => gk_M_of2 (by decide +kernel) (by simp [lv_args, gk_cat_rf, gk_catI, gk_catJ, gk_catD, gv_V, gv_I, gv_J, gv_D, gv_R]) (by simp [lg_sl, gk_cat_rf, gk_catI, gk_catJ, gk_catD, gv_V, gv_I, gv_J, gv_D, gv_R]) (w_M_modulo d a0 a1 a2 h r h1 e)
theorem d_M_simple_0 : decode b_M_simple 0 = .ok (.iload_n 1, 1) := by decide +kernel
theorem d_M_simple_1 : decode b_M_simple 1 = .ok (.tableswitch 76 19 23 #[35, 48, 55, 60, 68], 35) := by decide +kernel
theorem d_M_simple_36 : decode b_M_simple 36 = .ok (.dload_n 2, 1) := by decide +kernel
theorem d_M_simple_37 : decode b_M_simple 37 = .ok (.dconst 0, 1) := by decide +kernel
theorem d_M_simple_38 : decode b_M_simple 38 = .ok (.dcmp .g, 1) := by decide +kernel
theorem d_M_simple_39 : decode b_M_simple 39 = .ok (.ifCond .ge 8, 3) := by decide +kernel
theorem d_M_simple_42 : decode b_M_simple 42 = .ok (.dload_n 2, 1) := by decide +kernel
theorem d_M_simple_43 : decode b_M_simple 43 = .ok (.dneg, 1) := by decide +kernel
theorem d_M_simple_44 : decode b_M_simple 44 = .ok (.goto 4, 3) := by decide +kernel
theorem d_M_simple_47 : decode b_M_simple 47 = .ok (.dload_n 2, 1) := by decide +kernel
theorem d_M_simple_48 : decode b_M_simple 48 = .ok (.dreturn, 1) := by decide +kernel
theorem d_M_simple_49 : decode b_M_simple 49 = .ok (.dload_n 2, 1) := by decide +kernel
theorem d_M_simple_50 : decode b_M_simple 50 = .ok (.dconst 0, 1) := by decide +kernel
theorem d_M_simple_51 : decode b_M_simple 51 = .ok (.invokestatic 179, 3) := by decide +kernel
theorem d_M_simple_54 : decode b_M_simple 54 = .ok (.i2d, 1) := by decide +kernel
theorem d_M_simple_55 : decode b_M_simple 55 = .ok (.dreturn, 1) := by decide +kernel
theorem d_M_simple_56 : decode b_M_simple 56 = .ok (.dload_n 2, 1) := by decide +kernel
theorem d_M_simple_57 : decode b_M_simple 57 = .ok (.invokestatic 227, 3) := by decide +kernel
theorem d_M_simple_60 : decode b_M_simple 60 = .ok (.dreturn, 1) := by decide +kernel
theorem d_M_simple_61 : decode b_M_simple 61 = .ok (.aload_n 0, 1) := by decide +kernel
theorem d_M_simple_62 : decode b_M_simple 62 = .ok (.dload_n 2, 1) := by decide +kernel
theorem d_M_simple_63 : decode b_M_simple 63 = .ok (.dload 4, 2) := by decide +kernel
theorem d_M_simple_65 : decode b_M_simple 65 = .ok (.invokevirtual 213, 3) := by decide +kernel
theorem d_M_simple_68 : decode b_M_simple 68 = .ok (.dreturn, 1) := by decide +kernel
theorem d_M_simple_69 : decode b_M_simple 69 = .ok (.aload_n 0, 1) := by decide +kernel
theorem d_M_simple_70 : decode b_M_simple 70 = .ok (.dload_n 2, 1) := by decide +kernel
theorem d_M_simple_71 : decode b_M_simple 71 = .ok (.dload 4, 2) := by decide +kernel
theorem d_M_simple_73 : decode b_M_simple 73 = .ok (.invokevirtual 348, 3) := by decide +kernel
theorem d_M_simple_76 : decode b_M_simple 76 = .ok (.dreturn, 1) := by decide +kernel
theorem d_M_simple_77 : decode b_M_simple 77 = .ok (.aload_n 0, 1) := by decide +kernel
theorem d_M_simple_78 : decode b_M_simple 78 = .ok (.dload_n 2, 1) := by decide +kernel
theorem d_M_simple_79 : decode b_M_simple 79 = .ok (.dload 4, 2) := by decide +kernel
theorem d_M_simple_81 : decode b_M_simple 81 = .ok (.invokevirtual 221, 3) := by decide +kernel
theorem d_M_simple_84 : decode b_M_simple 84 = .ok (.dstore 6, 2) := by decide +kernel
theorem d_M_simple_86 : decode b_M_simple 86 = .ok (.dload 6, 2) := by decide +kernel
theorem d_M_simple_88 : decode b_M_simple 88 = .ok (.dconst 0, 1) := by decide +kernel
theorem d_M_simple_89 : decode b_M_simple 89 = .ok (.dcmp .g, 1) := by decide +kernel
theorem d_M_simple_90 : decode b_M_simple 90 = .ok (.ifCond .ge 11, 3) := by decide +kernel
theorem d_M_simple_93 : decode b_M_simple 93 = .ok (.dload 6, 2) := by decide +kernel
theorem d_M_simple_95 : decode b_M_simple 95 = .ok (.invokestatic 351, 3) := by decide +kernel
theorem d_M_simple_98 : decode b_M_simple 98 = .ok (.goto 8, 3) := by decide +kernel
theorem d_M_simple_101 : decode b_M_simple 101 = .ok (.dload 6, 2) := by decide +kernel
theorem d_M_simple_103 : decode b_M_simple 103 = .ok (.invokestatic 227, 3) := by decide +kernel
theorem d_M_simple_106 : decode b_M_simple 106 = .ok (.dreturn, 1) := by decide +kernel
theorem p_M_simple_b106 (d : Nat)  (s0 : UInt64) (h : gk_H) : gk_P gw_D (d + 4) y_M_simple b_M_simple 8 (some .double) [] (f_M_simple_b106  s0 h) 106 [] [.double s0] h := by
  unfold f_M_simple_b106
  exact gk_dret (pc := 106) rfl d_M_simple_106 rfl
theorem p_M_simple_b48 (d : Nat)  (s0 : UInt64) (h : gk_H) : gk_P gw_D (d + 4) y_M_simple b_M_simple 8 (some .double) [] (f_M_simple_b48  s0 h) 48 [] [.double s0] h := by
  unfold f_M_simple_b48
  exact gk_dret (pc := 48) rfl d_M_simple_48 rfl
theorem w_M_simple (d : Nat) (a0 : Option Nat) (a1 : Int32) (a2 : UInt64) (a3 : UInt64) (h : gk_H) : gk_P gw_D (d + 4) y_M_simple b_M_simple 8 (some .double) [] (f_M_simple a0 a1 a2 a3 h) 0 [(0, va_rf a0), (1, .int a1), (2, .double a2), (4, .double a3)] [] h := by
  unfold f_M_simple
  refine gk_iload_n (pc := 0) 1 d_M_simple_0 rfl ?_
  refine gk_ite (fun z1_0 => ?_) (fun z1_0 => ?_)
  · refine gk_tsw_in (pc := 1) (19 : Int32) 36 d_M_simple_1 z1_0 (by decide) (by decide) rfl rfl ?_
    refine gk_dload_n (pc := 36) 2 d_M_simple_36 rfl ?_
    refine gk_dconst0 (pc := 37) d_M_simple_37 ?_
    refine gk_dcmp (pc := 38) d_M_simple_38 ?_
    refine gk_if_ge (pc := 39) 47 d_M_simple_39 rfl (fun _ => ?_) (fun _ => ?_)
    · refine gk_dload_n (pc := 47) 2 d_M_simple_47 rfl ?_
      refine gk_weak [] (L' := []) rfl ?_
      exact p_M_simple_b48 d a2 h
    · refine gk_dload_n (pc := 42) 2 d_M_simple_42 rfl ?_
      refine gk_dneg (pc := 43) d_M_simple_43 ?_
      refine gk_goto (pc := 44) 48 d_M_simple_44 rfl ?_
      refine gk_weak [] (L' := []) rfl ?_
      exact p_M_simple_b48 d (FP.dneg a2) h
  ·
    refine gk_ite (fun z1_1 => ?_) (fun z1_1 => ?_)
    · refine gk_tsw_in (pc := 1) (20 : Int32) 49 d_M_simple_1 z1_1 (by decide) (by decide) rfl rfl ?_
      refine gk_dload_n (pc := 49) 2 d_M_simple_49 rfl ?_
      refine gk_dconst0 (pc := 50) d_M_simple_50 ?_
      refine gk_callS (pc := 51) (d := (d + 3)) (w' := gv_I) (as := [.double a2, .double (0x0000000000000000)]) (n := 2) d_M_simple_51 rfl rfl (Nat.le_of_ble_eq_true rfl) tw_1820 tw_1821 tw_99 cw_M_compareNumbers hy_M_compareNumbers (Nat.le_of_ble_eq_true rfl) (p_M_compareNumbers (d + 3) a2 (0x0000000000000000) h) fun x1 h1 => ?_
      refine gk_i2d (pc := 54) d_M_simple_54 ?_
      exact gk_dret (pc := 55) rfl d_M_simple_55 rfl
    ·
      refine gk_ite (fun z1_2 => ?_) (fun z1_2 => ?_)
      · refine gk_tsw_in (pc := 1) (21 : Int32) 56 d_M_simple_1 z1_2 (by decide) (by decide) rfl rfl ?_
        refine gk_dload_n (pc := 56) 2 d_M_simple_56 rfl ?_
        refine gk_callS (pc := 57) (d := (d + 3)) (w' := gv_D) (as := [.double a2]) (n := 1) d_M_simple_57 rfl rfl (Nat.le_of_ble_eq_true rfl) tw_2027 tw_2028 tw_99 cw_M_floor hy_M_floor (Nat.le_of_ble_eq_true rfl) (p_M_floor (d + 3) a2 h) fun x2 h2 => ?_
        exact gk_dret (pc := 60) rfl d_M_simple_60 rfl
      ·
        refine gk_ite (fun z1_3 => ?_) (fun z1_3 => ?_)
        · refine gk_tsw_in (pc := 1) (22 : Int32) 61 d_M_simple_1 z1_3 (by decide) (by decide) rfl rfl ?_
          refine gk_aload_n (pc := 61) 0 d_M_simple_61 rfl ?_
          refine gk_dload_n (pc := 62) 2 d_M_simple_62 rfl ?_
          refine gk_dload (pc := 63) 3 d_M_simple_63 rfl ?_
          refine gk_callV (pc := 65) (d := (d + 3)) (w' := gv_D) (as := [.double a2, .double a3]) (n := 2) 7 d_M_simple_65 rfl rfl rfl rfl (Nat.le_of_ble_eq_true rfl) tw_1892 tw_1894 tw_35 tw_99 cw_M_power hy_M_power (Nat.le_of_ble_eq_true rfl) (p_M_power (d + 1) a0 a2 a3 h) fun x3 h3 => ?_
          exact gk_dret (pc := 68) rfl d_M_simple_68 rfl
        ·
          refine gk_ite (fun z1_4 => ?_) (fun z1_4 => ?_)
          · refine gk_tsw_in (pc := 1) (23 : Int32) 69 d_M_simple_1 z1_4 (by decide) (by decide) rfl rfl ?_
            refine gk_aload_n (pc := 69) 0 d_M_simple_69 rfl ?_
            refine gk_dload_n (pc := 70) 2 d_M_simple_70 rfl ?_
            refine gk_dload (pc := 71) 3 d_M_simple_71 rfl ?_
            refine gk_callV (pc := 73) (d := (d + 3)) (w' := gv_D) (as := [.double a2, .double a3]) (n := 2) 7 d_M_simple_73 rfl rfl rfl rfl (Nat.le_of_ble_eq_true rfl) tw_2042 tw_2044 tw_63 tw_99 cw_M_modulo hy_M_modulo (Nat.le_of_ble_eq_true rfl) (p_M_modulo d a0 a2 a3 h) fun x4 h4 => ?_
            exact gk_dret (pc := 76) rfl d_M_simple_76 rfl
          ·
            refine gk_tsw_out (pc := 1) 77 d_M_simple_1 (by have e0 := gk_neT z1_0 (by decide : (19 : Int32).toInt = 19); have e1 := gk_neT z1_1 (by decide : (20 : Int32).toInt = 20); have e2 := gk_neT z1_2 (by decide : (21 : Int32).toInt = 21); have e3 := gk_neT z1_3 (by decide : (22 : Int32).toInt = 22); have e4 := gk_neT z1_4 (by decide : (23 : Int32).toInt = 23); omega) rfl ?_
            refine gk_aload_n (pc := 77) 0 d_M_simple_77 rfl ?_
            refine gk_dload_n (pc := 78) 2 d_M_simple_78 rfl ?_
            refine gk_dload (pc := 79) 3 d_M_simple_79 rfl ?_
            refine gk_callV (pc := 81) (d := (d + 3)) (w' := gv_D) (as := [.double a2, .double a3]) (n := 2) 7 d_M_simple_81 rfl rfl rfl rfl (Nat.le_of_ble_eq_true rfl) tw_1912 tw_1914 tw_37 tw_99 cw_M_divide hy_M_divide (Nat.le_of_ble_eq_true rfl) (p_M_divide (d + 1) a0 a2 a3 h) fun x5 h5 => ?_
            refine gk_dstore (pc := 84) (L' := [(6, .double x5), (0, va_rf a0), (1, .int a1), (2, .double a2), (4, .double a3)]) d_M_simple_84 (Nat.le_of_ble_eq_true rfl) rfl ?_
            refine gk_dload (pc := 86) 0 d_M_simple_86 rfl ?_
            refine gk_dconst0 (pc := 88) d_M_simple_88 ?_
            refine gk_dcmp (pc := 89) d_M_simple_89 ?_
            refine gk_if_ge (pc := 90) 101 d_M_simple_90 rfl (fun _ => ?_) (fun _ => ?_)
            · refine gk_dload (pc := 101) 0 d_M_simple_101 rfl ?_
              refine gk_callS (pc := 103) (d := (d + 3)) (w' := gv_D) (as := [.double x5]) (n := 1) d_M_simple_103 rfl rfl (Nat.le_of_ble_eq_true rfl) tw_2027 tw_2028 tw_99 cw_M_floor hy_M_floor (Nat.le_of_ble_eq_true rfl) (p_M_floor (d + 3) x5 h5) fun x6 h6 => ?_
              refine gk_weak [] (L' := []) rfl ?_
              exact p_M_simple_b106 d x6 h6
            · refine gk_dload (pc := 93) 0 d_M_simple_93 rfl ?_
              refine gk_callS (pc := 95) (d := (d + 3)) (w' := gv_D) (as := [.double x5]) (n := 1) d_M_simple_95 rfl rfl (Nat.le_of_ble_eq_true rfl) tw_2034 tw_2035 tw_99 cw_M_ceiling hy_M_ceiling (Nat.le_of_ble_eq_true rfl) (p_M_ceiling (d + 2) x5 h5) fun x7 h7 => ?_
              refine gk_goto (pc := 98) 106 d_M_simple_98 rfl ?_
              refine gk_weak [] (L' := []) rfl ?_
              exact p_M_simple_b106 d x7 h7
theorem p_M_simple (d : Nat) (a0 : Option Nat) (a1 : Int32) (a2 : UInt64) (a3 : UInt64) (h : gk_H) : ∀ r h1, f_M_simple a0 a1 a2 a3 h = some (r, h1) → gk_M (d + 4) y_M_simple b_M_simple 8 (some .double) [va_rf a0, .int a1, .double a2, .double a3] h (.inl (gv_D r)) h1 :=
  fun r h1 e => gk_M_of2 (by decide +kernel) (by simp [lv_args, gk_cat_rf, gk_catI, gk_catJ, gk_catD, gv_V, gv_I, gv_J, gv_D, gv_R]) (by simp [lg_sl, gk_cat_rf, gk_catI, gk_catJ, gk_catD, gv_V, gv_I, gv_J, gv_D, gv_R]) (w_M_simple d a0 a1 a2 a3 h r h1 e)
theorem d_M_choosing_0 : decode b_M_choosing 0 = .ok (.aload_n 0, 1) := by decide +kernel
theorem d_M_choosing_1 : decode b_M_choosing 1 = .ok (.iload_n 2, 1) := by decide +kernel
theorem d_M_choosing_2 : decode b_M_choosing 2 = .ok (.invokevirtual 296, 3) := by decide +kernel
theorem d_M_choosing_5 : decode b_M_choosing 5 = .ok (.lstore_n 3, 1) := by decide +kernel
theorem d_M_choosing_6 : decode b_M_choosing 6 = .ok (.iload_n 1, 1) := by decide +kernel
theorem d_M_choosing_7 : decode b_M_choosing 7 = .ok (.bipush 28, 2) := by decide +kernel
theorem d_M_choosing_9 : decode b_M_choosing 9 = .ok (.if_icmp .ne 13, 3) := by decide +kernel
theorem d_M_choosing_12 : decode b_M_choosing 12 = .ok (.aload_n 0, 1) := by decide +kernel
theorem d_M_choosing_13 : decode b_M_choosing 13 = .ok (.iload_n 2, 1) := by decide +kernel
theorem d_M_choosing_14 : decode b_M_choosing 14 = .ok (.iconst 1, 1) := by decide +kernel
theorem d_M_choosing_15 : decode b_M_choosing 15 = .ok (.iadd, 1) := by decide +kernel
theorem d_M_choosing_16 : decode b_M_choosing 16 = .ok (.invokevirtual 296, 3) := by decide +kernel
theorem d_M_choosing_19 : decode b_M_choosing 19 = .ok (.goto 4, 3) := by decide +kernel
theorem d_M_choosing_22 : decode b_M_choosing 22 = .ok (.lconst 0, 1) := by decide +kernel
theorem d_M_choosing_23 : decode b_M_choosing 23 = .ok (.lstore 5, 2) := by decide +kernel
theorem d_M_choosing_25 : decode b_M_choosing 25 = .ok (.aload_n 0, 1) := by decide +kernel
theorem d_M_choosing_26 : decode b_M_choosing 26 = .ok (.getfield 62, 3) := by decide +kernel
theorem d_M_choosing_29 : decode b_M_choosing 29 = .ok (.ifCond .le 4, 3) := by decide +kernel
theorem d_M_choosing_32 : decode b_M_choosing 32 = .ok (.return_, 1) := by decide +kernel
theorem d_M_choosing_33 : decode b_M_choosing 33 = .ok (.iload_n 1, 1) := by decide +kernel
theorem d_M_choosing_34 : decode b_M_choosing 34 = .ok (.bipush 27, 2) := by decide +kernel
theorem d_M_choosing_36 : decode b_M_choosing 36 = .ok (.if_icmp .ne 20, 3) := by decide +kernel
theorem d_M_choosing_39 : decode b_M_choosing 39 = .ok (.lload_n 3, 1) := by decide +kernel
theorem d_M_choosing_40 : decode b_M_choosing 40 = .ok (.lconst 0, 1) := by decide +kernel
theorem d_M_choosing_41 : decode b_M_choosing 41 = .ok (.lcmp, 1) := by decide +kernel
theorem d_M_choosing_42 : decode b_M_choosing 42 = .ok (.ifCond .lt 36, 3) := by decide +kernel
theorem d_M_choosing_45 : decode b_M_choosing 45 = .ok (.lload_n 3, 1) := by decide +kernel
theorem d_M_choosing_46 : decode b_M_choosing 46 = .ok (.ldc2_w 360, 3) := by decide +kernel
theorem d_M_choosing_49 : decode b_M_choosing 49 = .ok (.lcmp, 1) := by decide +kernel
theorem d_M_choosing_50 : decode b_M_choosing 50 = .ok (.ifCond .le 35, 3) := by decide +kernel
theorem d_M_choosing_53 : decode b_M_choosing 53 = .ok (.goto 25, 3) := by decide +kernel
theorem d_M_choosing_56 : decode b_M_choosing 56 = .ok (.lload 5, 2) := by decide +kernel
theorem d_M_choosing_58 : decode b_M_choosing 58 = .ok (.lconst 0, 1) := by decide +kernel
theorem d_M_choosing_59 : decode b_M_choosing 59 = .ok (.lcmp, 1) := by decide +kernel
theorem d_M_choosing_60 : decode b_M_choosing 60 = .ok (.ifCond .lt 18, 3) := by decide +kernel
theorem d_M_choosing_63 : decode b_M_choosing 63 = .ok (.lload 5, 2) := by decide +kernel
theorem d_M_choosing_65 : decode b_M_choosing 65 = .ok (.lload_n 3, 1) := by decide +kernel
theorem d_M_choosing_66 : decode b_M_choosing 66 = .ok (.lcmp, 1) := by decide +kernel
theorem d_M_choosing_67 : decode b_M_choosing 67 = .ok (.ifCond .gt 11, 3) := by decide +kernel
theorem d_M_choosing_70 : decode b_M_choosing 70 = .ok (.lload_n 3, 1) := by decide +kernel
theorem d_M_choosing_71 : decode b_M_choosing 71 = .ok (.ldc2_w 362, 3) := by decide +kernel
theorem d_M_choosing_74 : decode b_M_choosing 74 = .ok (.lcmp, 1) := by decide +kernel
theorem d_M_choosing_75 : decode b_M_choosing 75 = .ok (.ifCond .le 10, 3) := by decide +kernel
theorem d_M_choosing_78 : decode b_M_choosing 78 = .ok (.aload_n 0, 1) := by decide +kernel
theorem d_M_choosing_79 : decode b_M_choosing 79 = .ok (.bipush 6, 2) := by decide +kernel
theorem d_M_choosing_81 : decode b_M_choosing 81 = .ok (.invokevirtual 58, 3) := by decide +kernel
theorem d_M_choosing_84 : decode b_M_choosing 84 = .ok (.return_, 1) := by decide +kernel
theorem d_M_choosing_85 : decode b_M_choosing 85 = .ok (.dconst 1, 1) := by decide +kernel
theorem d_M_choosing_86 : decode b_M_choosing 86 = .ok (.dstore 7, 2) := by decide +kernel
theorem d_M_choosing_88 : decode b_M_choosing 88 = .ok (.lconst 1, 1) := by decide +kernel
theorem d_M_choosing_89 : decode b_M_choosing 89 = .ok (.lstore 9, 2) := by decide +kernel
theorem d_M_choosing_91 : decode b_M_choosing 91 = .ok (.lload 9, 2) := by decide +kernel
theorem d_M_choosing_93 : decode b_M_choosing 93 = .ok (.iload_n 1, 1) := by decide +kernel
theorem d_M_choosing_94 : decode b_M_choosing 94 = .ok (.bipush 27, 2) := by decide +kernel
theorem d_M_choosing_96 : decode b_M_choosing 96 = .ok (.if_icmp .ne 7, 3) := by decide +kernel
theorem d_M_choosing_99 : decode b_M_choosing 99 = .ok (.lload_n 3, 1) := by decide +kernel
theorem d_M_choosing_100 : decode b_M_choosing 100 = .ok (.goto 5, 3) := by decide +kernel
theorem d_M_choosing_103 : decode b_M_choosing 103 = .ok (.lload 5, 2) := by decide +kernel
theorem d_M_choosing_105 : decode b_M_choosing 105 = .ok (.lcmp, 1) := by decide +kernel
theorem d_M_choosing_106 : decode b_M_choosing 106 = .ok (.ifCond .gt 77, 3) := by decide +kernel
theorem d_M_choosing_109 : decode b_M_choosing 109 = .ok (.aload_n 0, 1) := by decide +kernel
theorem d_M_choosing_110 : decode b_M_choosing 110 = .ok (.getfield 62, 3) := by decide +kernel
theorem d_M_choosing_113 : decode b_M_choosing 113 = .ok (.ifCond .ne 70, 3) := by decide +kernel
theorem d_M_choosing_116 : decode b_M_choosing 116 = .ok (.aload_n 0, 1) := by decide +kernel
theorem d_M_choosing_117 : decode b_M_choosing 117 = .ok (.dload 7, 2) := by decide +kernel
theorem d_M_choosing_119 : decode b_M_choosing 119 = .ok (.iload_n 1, 1) := by decide +kernel
theorem d_M_choosing_120 : decode b_M_choosing 120 = .ok (.bipush 27, 2) := by decide +kernel
theorem d_M_choosing_122 : decode b_M_choosing 122 = .ok (.if_icmp .ne 8, 3) := by decide +kernel
theorem d_M_choosing_125 : decode b_M_choosing 125 = .ok (.lload 9, 2) := by decide +kernel
theorem d_M_choosing_127 : decode b_M_choosing 127 = .ok (.goto 10, 3) := by decide +kernel
theorem d_M_choosing_130 : decode b_M_choosing 130 = .ok (.lload_n 3, 1) := by decide +kernel
theorem d_M_choosing_131 : decode b_M_choosing 131 = .ok (.lload 5, 2) := by decide +kernel
theorem d_M_choosing_133 : decode b_M_choosing 133 = .ok (.lsub, 1) := by decide +kernel
theorem d_M_choosing_134 : decode b_M_choosing 134 = .ok (.lload 9, 2) := by decide +kernel
theorem d_M_choosing_136 : decode b_M_choosing 136 = .ok (.ladd, 1) := by decide +kernel
theorem d_M_choosing_137 : decode b_M_choosing 137 = .ok (.l2d, 1) := by decide +kernel
theorem d_M_choosing_138 : decode b_M_choosing 138 = .ok (.dmul, 1) := by decide +kernel
theorem d_M_choosing_139 : decode b_M_choosing 139 = .ok (.invokevirtual 217, 3) := by decide +kernel
theorem d_M_choosing_142 : decode b_M_choosing 142 = .ok (.dstore 7, 2) := by decide +kernel
theorem d_M_choosing_144 : decode b_M_choosing 144 = .ok (.iload_n 1, 1) := by decide +kernel
theorem d_M_choosing_145 : decode b_M_choosing 145 = .ok (.bipush 28, 2) := by decide +kernel
theorem d_M_choosing_147 : decode b_M_choosing 147 = .ok (.if_icmp .ne 23, 3) := by decide +kernel
theorem d_M_choosing_150 : decode b_M_choosing 150 = .ok (.aload_n 0, 1) := by decide +kernel
theorem d_M_choosing_151 : decode b_M_choosing 151 = .ok (.getfield 62, 3) := by decide +kernel
theorem d_M_choosing_154 : decode b_M_choosing 154 = .ok (.ifCond .ne 16, 3) := by decide +kernel
theorem d_M_choosing_157 : decode b_M_choosing 157 = .ok (.aload_n 0, 1) := by decide +kernel
theorem d_M_choosing_158 : decode b_M_choosing 158 = .ok (.dload 7, 2) := by decide +kernel
theorem d_M_choosing_160 : decode b_M_choosing 160 = .ok (.lload 9, 2) := by decide +kernel
theorem d_M_choosing_162 : decode b_M_choosing 162 = .ok (.l2d, 1) := by decide +kernel
theorem d_M_choosing_163 : decode b_M_choosing 163 = .ok (.ddiv, 1) := by decide +kernel
theorem d_M_choosing_164 : decode b_M_choosing 164 = .ok (.invokevirtual 217, 3) := by decide +kernel
theorem d_M_choosing_167 : decode b_M_choosing 167 = .ok (.goto 5, 3) := by decide +kernel
theorem d_M_choosing_170 : decode b_M_choosing 170 = .ok (.dload 7, 2) := by decide +kernel
theorem d_M_choosing_172 : decode b_M_choosing 172 = .ok (.dstore 7, 2) := by decide +kernel
theorem d_M_choosing_174 : decode b_M_choosing 174 = .ok (.lload 9, 2) := by decide +kernel
theorem d_M_choosing_176 : decode b_M_choosing 176 = .ok (.lconst 1, 1) := by decide +kernel
theorem d_M_choosing_177 : decode b_M_choosing 177 = .ok (.ladd, 1) := by decide +kernel
theorem d_M_choosing_178 : decode b_M_choosing 178 = .ok (.lstore 9, 2) := by decide +kernel
theorem d_M_choosing_180 : decode b_M_choosing 180 = .ok (.goto (-89), 3) := by decide +kernel
theorem d_M_choosing_183 : decode b_M_choosing 183 = .ok (.aload_n 0, 1) := by decide +kernel
theorem d_M_choosing_184 : decode b_M_choosing 184 = .ok (.dload 7, 2) := by decide +kernel
theorem d_M_choosing_186 : decode b_M_choosing 186 = .ok (.invokevirtual 207, 3) := by decide +kernel
theorem d_M_choosing_189 : decode b_M_choosing 189 = .ok (.return_, 1) := by decide +kernel
theorem p_M_choosing_b78 (d : Nat)  (v0 : Option Nat) (h : gk_H) : gk_P gw_V (d + 5) y_M_choosing b_M_choosing 11 none [] (f_M_choosing_b78  v0 h) 78 [(0, va_rf v0)] [] h := by
  unfold f_M_choosing_b78
  refine gk_aload_n (pc := 78) 0 d_M_choosing_78 rfl ?_
  refine gk_bipush (pc := 79) (6 : Int32) d_M_choosing_79 rfl ?_
  refine gk_callV (pc := 81) (d := (d + 4)) (w' := gv_V) (as := [.int (6 : Int32)]) (n := 1) 7 d_M_choosing_81 rfl rfl rfl rfl (Nat.le_of_ble_eq_true rfl) tw_1805 tw_1807 tw_21 tw_99 cw_M_fail hy_M_fail (Nat.le_of_ble_eq_true rfl) (p_M_fail (d + 4) v0 (6 : Int32) h) fun _ h1 => ?_
  exact gk_vret (pc := 84) rfl d_M_choosing_84 rfl
theorem p_M_choosing_b183 (d : Nat)  (v0 : Option Nat) (v7 : UInt64) (h : gk_H) : gk_P gw_V (d + 5) y_M_choosing b_M_choosing 11 none [] (f_M_choosing_b183  v0 v7 h) 183 [(0, va_rf v0), (7, .double v7)] [] h := by
  unfold f_M_choosing_b183
  refine gk_aload_n (pc := 183) 0 d_M_choosing_183 rfl ?_
  refine gk_dload (pc := 184) 1 d_M_choosing_184 rfl ?_
  refine gk_callV (pc := 186) (d := (d + 4)) (w' := gv_V) (as := [.double v7]) (n := 1) 7 d_M_choosing_186 rfl rfl rfl rfl (Nat.le_of_ble_eq_true rfl) tw_1916 tw_1918 tw_38 tw_99 cw_M_answerNumber hy_M_answerNumber (Nat.le_of_ble_eq_true rfl) (p_M_answerNumber (d + 3) v0 v7 h) fun _ h1 => ?_
  exact gk_vret (pc := 189) rfl d_M_choosing_189 rfl
theorem p_M_choosing_b172 (d : Nat) (b91 : Option Nat → Int32 → Int64 → Int64 → UInt64 → Int64 → gk_H → Option (Unit × gk_H)) (q91 : ∀ (v0 : Option Nat) (v1 : Int32) (v3 : Int64) (v5 : Int64) (v7 : UInt64) (v9 : Int64) (h : gk_H), gk_P gw_V (d + 5) y_M_choosing b_M_choosing 11 none [] (b91 v0 v1 v3 v5 v7 v9 h) 91 [(0, va_rf v0), (1, .int v1), (3, .long v3), (5, .long v5), (7, .double v7), (9, .long v9)] [] h) (v0 : Option Nat) (v1 : Int32) (v3 : Int64) (v5 : Int64) (v9 : Int64) (s0 : UInt64) (h : gk_H) : gk_P gw_V (d + 5) y_M_choosing b_M_choosing 11 none [] (f_M_choosing_b172 b91 v0 v1 v3 v5 v9 s0 h) 172 [(0, va_rf v0), (1, .int v1), (3, .long v3), (5, .long v5), (9, .long v9)] [.double s0] h := by
  unfold f_M_choosing_b172
  refine gk_dstore (pc := 172) (L' := [(7, .double s0), (0, va_rf v0), (1, .int v1), (3, .long v3), (5, .long v5), (9, .long v9)]) d_M_choosing_172 (Nat.le_of_ble_eq_true rfl) rfl ?_
  refine gk_lload (pc := 174) 5 d_M_choosing_174 rfl ?_
  refine gk_lconst (pc := 176) (1 : Int64) d_M_choosing_176 rfl ?_
  refine gk_ladd (pc := 177) d_M_choosing_177 ?_
  refine gk_topJ (pc := 178) fun x1 => ?_
  refine gk_lstore (pc := 178) (L' := [(9, .long x1), (7, .double s0), (0, va_rf v0), (1, .int v1), (3, .long v3), (5, .long v5)]) d_M_choosing_178 (Nat.le_of_ble_eq_true rfl) rfl ?_
  refine gk_goto (pc := 180) 91 d_M_choosing_180 rfl ?_
  refine gk_weak [2, 3, 4, 5, 1, 0] (L' := [(0, va_rf v0), (1, .int v1), (3, .long v3), (5, .long v5), (7, .double s0), (9, .long x1)]) rfl ?_
  exact q91 v0 v1 v3 v5 s0 x1 h
theorem p_M_choosing_b170 (d : Nat) (b91 : Option Nat → Int32 → Int64 → Int64 → UInt64 → Int64 → gk_H → Option (Unit × gk_H)) (q91 : ∀ (v0 : Option Nat) (v1 : Int32) (v3 : Int64) (v5 : Int64) (v7 : UInt64) (v9 : Int64) (h : gk_H), gk_P gw_V (d + 5) y_M_choosing b_M_choosing 11 none [] (b91 v0 v1 v3 v5 v7 v9 h) 91 [(0, va_rf v0), (1, .int v1), (3, .long v3), (5, .long v5), (7, .double v7), (9, .long v9)] [] h) (v0 : Option Nat) (v1 : Int32) (v3 : Int64) (v5 : Int64) (v7 : UInt64) (v9 : Int64) (h : gk_H) : gk_P gw_V (d + 5) y_M_choosing b_M_choosing 11 none [] (f_M_choosing_b170 b91 v0 v1 v3 v5 v7 v9 h) 170 [(0, va_rf v0), (1, .int v1), (3, .long v3), (5, .long v5), (7, .double v7), (9, .long v9)] [] h := by
  unfold f_M_choosing_b170
  refine gk_dload (pc := 170) 4 d_M_choosing_170 rfl ?_
  refine gk_weak [0, 1, 2, 3, 5] (L' := [(0, va_rf v0), (1, .int v1), (3, .long v3), (5, .long v5), (9, .long v9)]) rfl ?_
  exact p_M_choosing_b172 d b91 q91 v0 v1 v3 v5 v9 v7 h
theorem p_M_choosing_b137 (d : Nat) (b91 : Option Nat → Int32 → Int64 → Int64 → UInt64 → Int64 → gk_H → Option (Unit × gk_H)) (q91 : ∀ (v0 : Option Nat) (v1 : Int32) (v3 : Int64) (v5 : Int64) (v7 : UInt64) (v9 : Int64) (h : gk_H), gk_P gw_V (d + 5) y_M_choosing b_M_choosing 11 none [] (b91 v0 v1 v3 v5 v7 v9 h) 91 [(0, va_rf v0), (1, .int v1), (3, .long v3), (5, .long v5), (7, .double v7), (9, .long v9)] [] h) (v0 : Option Nat) (v1 : Int32) (v3 : Int64) (v5 : Int64) (v9 : Int64) (s0 : Option Nat) (s1 : UInt64) (s2 : Int64) (h : gk_H) : gk_P gw_V (d + 5) y_M_choosing b_M_choosing 11 none [] (f_M_choosing_b137 b91 v0 v1 v3 v5 v9 s0 s1 s2 h) 137 [(0, va_rf v0), (1, .int v1), (3, .long v3), (5, .long v5), (9, .long v9)] [.long s2, .double s1, va_rf s0] h := by
  unfold f_M_choosing_b137
  refine gk_l2d (pc := 137) d_M_choosing_137 ?_
  refine gk_dmulN (pc := 138) d_M_choosing_138 fun x1 => ?_
  refine gk_callV (pc := 139) (d := (d + 4)) (w' := gv_D) (as := [.double x1]) (n := 1) 7 d_M_choosing_139 rfl rfl rfl rfl (Nat.le_of_ble_eq_true rfl) tw_1903 tw_1905 tw_36 tw_99 cw_M_step hy_M_step (Nat.le_of_ble_eq_true rfl) (p_M_step (d + 3) s0 x1 h) fun x2 h1 => ?_
  refine gk_dstore (pc := 142) (L' := [(7, .double x2), (0, va_rf v0), (1, .int v1), (3, .long v3), (5, .long v5), (9, .long v9)]) d_M_choosing_142 (Nat.le_of_ble_eq_true rfl) rfl ?_
  refine gk_iload_n (pc := 144) 2 d_M_choosing_144 rfl ?_
  refine gk_bipush (pc := 145) (28 : Int32) d_M_choosing_145 rfl ?_
  refine gk_icmp_ne (pc := 147) 170 d_M_choosing_147 rfl (fun _ => ?_) (fun _ => ?_)
  · refine gk_aload_n (pc := 150) 1 d_M_choosing_150 rfl ?_
    refine gk_getI (pc := 151) 7 11 d_M_choosing_151 rfl (Nat.le_of_ble_eq_true rfl) tw_1656 fun x3 => ?_
    refine gk_if_ne (pc := 154) 170 d_M_choosing_154 rfl (fun _ => ?_) (fun _ => ?_)
    · refine gk_aload_n (pc := 157) 1 d_M_choosing_157 rfl ?_
      refine gk_dload (pc := 158) 0 d_M_choosing_158 rfl ?_
      refine gk_lload (pc := 160) 5 d_M_choosing_160 rfl ?_
      refine gk_l2d (pc := 162) d_M_choosing_162 ?_
      refine gk_ddivN (pc := 163) d_M_choosing_163 fun x4 => ?_
      refine gk_callV (pc := 164) (d := (d + 4)) (w' := gv_D) (as := [.double x4]) (n := 1) 7 d_M_choosing_164 rfl rfl rfl rfl (Nat.le_of_ble_eq_true rfl) tw_1903 tw_1905 tw_36 tw_99 cw_M_step hy_M_step (Nat.le_of_ble_eq_true rfl) (p_M_step (d + 3) v0 x4 h1) fun x5 h2 => ?_
      refine gk_goto (pc := 167) 172 d_M_choosing_167 rfl ?_
      refine gk_weak [1, 2, 3, 4, 5] (L' := [(0, va_rf v0), (1, .int v1), (3, .long v3), (5, .long v5), (9, .long v9)]) rfl ?_
      exact p_M_choosing_b172 d b91 q91 v0 v1 v3 v5 v9 x5 h2
    · refine gk_weak [1, 2, 3, 4, 0, 5] (L' := [(0, va_rf v0), (1, .int v1), (3, .long v3), (5, .long v5), (7, .double x2), (9, .long v9)]) rfl ?_
      exact p_M_choosing_b170 d b91 q91 v0 v1 v3 v5 x2 v9 h1
  · refine gk_weak [1, 2, 3, 4, 0, 5] (L' := [(0, va_rf v0), (1, .int v1), (3, .long v3), (5, .long v5), (7, .double x2), (9, .long v9)]) rfl ?_
    exact p_M_choosing_b170 d b91 q91 v0 v1 v3 v5 x2 v9 h1
theorem p_M_choosing_b105 (d : Nat) (b91 : Option Nat → Int32 → Int64 → Int64 → UInt64 → Int64 → gk_H → Option (Unit × gk_H)) (q91 : ∀ (v0 : Option Nat) (v1 : Int32) (v3 : Int64) (v5 : Int64) (v7 : UInt64) (v9 : Int64) (h : gk_H), gk_P gw_V (d + 5) y_M_choosing b_M_choosing 11 none [] (b91 v0 v1 v3 v5 v7 v9 h) 91 [(0, va_rf v0), (1, .int v1), (3, .long v3), (5, .long v5), (7, .double v7), (9, .long v9)] [] h) (v0 : Option Nat) (v1 : Int32) (v3 : Int64) (v5 : Int64) (v7 : UInt64) (v9 : Int64) (s0 : Int64) (s1 : Int64) (h : gk_H) : gk_P gw_V (d + 5) y_M_choosing b_M_choosing 11 none [] (f_M_choosing_b105 b91 v0 v1 v3 v5 v7 v9 s0 s1 h) 105 [(0, va_rf v0), (1, .int v1), (3, .long v3), (5, .long v5), (7, .double v7), (9, .long v9)] [.long s1, .long s0] h := by
  unfold f_M_choosing_b105
  refine gk_lcmp (pc := 105) d_M_choosing_105 ?_
  refine gk_if_gt (pc := 106) 183 d_M_choosing_106 rfl (fun _ => ?_) (fun _ => ?_)
  · refine gk_weak [0, 4] (L' := [(0, va_rf v0), (7, .double v7)]) rfl ?_
    exact p_M_choosing_b183 d v0 v7 h
  · refine gk_aload_n (pc := 109) 0 d_M_choosing_109 rfl ?_
    refine gk_getI (pc := 110) 7 11 d_M_choosing_110 rfl (Nat.le_of_ble_eq_true rfl) tw_1656 fun x1 => ?_
    refine gk_if_ne (pc := 113) 183 d_M_choosing_113 rfl (fun _ => ?_) (fun _ => ?_)
    · refine gk_aload_n (pc := 116) 0 d_M_choosing_116 rfl ?_
      refine gk_dload (pc := 117) 4 d_M_choosing_117 rfl ?_
      refine gk_iload_n (pc := 119) 1 d_M_choosing_119 rfl ?_
      refine gk_bipush (pc := 120) (27 : Int32) d_M_choosing_120 rfl ?_
      refine gk_icmp_ne (pc := 122) 130 d_M_choosing_122 rfl (fun _ => ?_) (fun _ => ?_)
      · refine gk_lload (pc := 125) 5 d_M_choosing_125 rfl ?_
        refine gk_goto (pc := 127) 137 d_M_choosing_127 rfl ?_
        refine gk_weak [0, 1, 2, 3, 5] (L' := [(0, va_rf v0), (1, .int v1), (3, .long v3), (5, .long v5), (9, .long v9)]) rfl ?_
        exact p_M_choosing_b137 d b91 q91 v0 v1 v3 v5 v9 v0 v7 v9 h
      · refine gk_lload_n (pc := 130) 2 d_M_choosing_130 rfl ?_
        refine gk_lload (pc := 131) 3 d_M_choosing_131 rfl ?_
        refine gk_lsub (pc := 133) d_M_choosing_133 ?_
        refine gk_lload (pc := 134) 5 d_M_choosing_134 rfl ?_
        refine gk_ladd (pc := 136) d_M_choosing_136 ?_
        refine gk_weak [0, 1, 2, 3, 5] (L' := [(0, va_rf v0), (1, .int v1), (3, .long v3), (5, .long v5), (9, .long v9)]) rfl ?_
        exact p_M_choosing_b137 d b91 q91 v0 v1 v3 v5 v9 v0 v7 ((v3 - v5) + v9) h
    · refine gk_weak [0, 4] (L' := [(0, va_rf v0), (7, .double v7)]) rfl ?_
      exact p_M_choosing_b183 d v0 v7 h
theorem p_M_choosing_b91 (d : Nat)  : ∀ (fu : Nat) (v0 : Option Nat) (v1 : Int32) (v3 : Int64) (v5 : Int64) (v7 : UInt64) (v9 : Int64) (h : gk_H), gk_P gw_V (d + 5) y_M_choosing b_M_choosing 11 none [] (f_M_choosing_b91  fu v0 v1 v3 v5 v7 v9 h) 91 [(0, va_rf v0), (1, .int v1), (3, .long v3), (5, .long v5), (7, .double v7), (9, .long v9)] [] h := by
  intro fu
  induction fu with
  | zero => intros; exact gk_none
  | succ fu q91 =>
    intro v0 v1 v3 v5 v7 v9 h
    rw [f_M_choosing_b91]
    refine gk_lload (pc := 91) 5 d_M_choosing_91 rfl ?_
    refine gk_iload_n (pc := 93) 1 d_M_choosing_93 rfl ?_
    refine gk_bipush (pc := 94) (27 : Int32) d_M_choosing_94 rfl ?_
    refine gk_icmp_ne (pc := 96) 103 d_M_choosing_96 rfl (fun _ => ?_) (fun _ => ?_)
    · refine gk_lload_n (pc := 99) 2 d_M_choosing_99 rfl ?_
      refine gk_goto (pc := 100) 105 d_M_choosing_100 rfl ?_
      exact p_M_choosing_b105 d (f_M_choosing_b91 fu) q91 v0 v1 v3 v5 v7 v9 v9 v3 h
    · refine gk_lload (pc := 103) 3 d_M_choosing_103 rfl ?_
      exact p_M_choosing_b105 d (f_M_choosing_b91 fu) q91 v0 v1 v3 v5 v7 v9 v9 v5 h
theorem p_M_choosing_b85 (d : Nat)  (v0 : Option Nat) (v1 : Int32) (v3 : Int64) (v5 : Int64) (h : gk_H) : gk_P gw_V (d + 5) y_M_choosing b_M_choosing 11 none [] (f_M_choosing_b85  v0 v1 v3 v5 h) 85 [(0, va_rf v0), (1, .int v1), (3, .long v3), (5, .long v5)] [] h := by
  unfold f_M_choosing_b85
  refine gk_dconst1 (pc := 85) d_M_choosing_85 ?_
  refine gk_dstore (pc := 86) (L' := [(7, .double (0x3ff0000000000000)), (0, va_rf v0), (1, .int v1), (3, .long v3), (5, .long v5)]) d_M_choosing_86 (Nat.le_of_ble_eq_true rfl) rfl ?_
  refine gk_lconst (pc := 88) (1 : Int64) d_M_choosing_88 rfl ?_
  refine gk_lstore (pc := 89) (L' := [(9, .long (1 : Int64)), (7, .double (0x3ff0000000000000)), (0, va_rf v0), (1, .int v1), (3, .long v3), (5, .long v5)]) d_M_choosing_89 (Nat.le_of_ble_eq_true rfl) rfl ?_
  refine gk_weak [2, 3, 4, 5, 1, 0] (L' := [(0, va_rf v0), (1, .int v1), (3, .long v3), (5, .long v5), (7, .double (0x3ff0000000000000)), (9, .long (1 : Int64))]) rfl ?_
  exact p_M_choosing_b91 d gk_F v0 v1 v3 v5 (0x3ff0000000000000) (1 : Int64) h
theorem p_M_choosing_b23 (d : Nat)  (v0 : Option Nat) (v1 : Int32) (v3 : Int64) (s0 : Int64) (h : gk_H) : gk_P gw_V (d + 5) y_M_choosing b_M_choosing 11 none [] (f_M_choosing_b23  v0 v1 v3 s0 h) 23 [(0, va_rf v0), (1, .int v1), (3, .long v3)] [.long s0] h := by
  unfold f_M_choosing_b23
  refine gk_lstore (pc := 23) (L' := [(5, .long s0), (0, va_rf v0), (1, .int v1), (3, .long v3)]) d_M_choosing_23 (Nat.le_of_ble_eq_true rfl) rfl ?_
  refine gk_aload_n (pc := 25) 1 d_M_choosing_25 rfl ?_
  refine gk_getI (pc := 26) 7 11 d_M_choosing_26 rfl (Nat.le_of_ble_eq_true rfl) tw_1656 fun x1 => ?_
  refine gk_if_le (pc := 29) 33 d_M_choosing_29 rfl (fun _ => ?_) (fun _ => ?_)
  · refine gk_iload_n (pc := 33) 2 d_M_choosing_33 rfl ?_
    refine gk_bipush (pc := 34) (27 : Int32) d_M_choosing_34 rfl ?_
    refine gk_icmp_ne (pc := 36) 56 d_M_choosing_36 rfl (fun _ => ?_) (fun _ => ?_)
    · refine gk_lload_n (pc := 39) 3 d_M_choosing_39 rfl ?_
      refine gk_lconst (pc := 40) (0 : Int64) d_M_choosing_40 rfl ?_
      refine gk_lcmp (pc := 41) d_M_choosing_41 ?_
      refine gk_if_lt (pc := 42) 78 d_M_choosing_42 rfl (fun _ => ?_) (fun _ => ?_)
      · refine gk_weak [1] (L' := [(0, va_rf v0)]) rfl ?_
        exact p_M_choosing_b78 d v0 h
      · refine gk_lload_n (pc := 45) 3 d_M_choosing_45 rfl ?_
        refine gk_ldc2 (pc := 46) tw_2019 d_M_choosing_46 ?_
        refine gk_lcmp (pc := 49) d_M_choosing_49 ?_
        refine gk_if_le (pc := 50) 85 d_M_choosing_50 rfl (fun _ => ?_) (fun _ => ?_)
        · refine gk_weak [1, 2, 3, 0] (L' := [(0, va_rf v0), (1, .int v1), (3, .long v3), (5, .long s0)]) rfl ?_
          exact p_M_choosing_b85 d v0 v1 v3 s0 h
        · refine gk_goto (pc := 53) 78 d_M_choosing_53 rfl ?_
          refine gk_weak [1] (L' := [(0, va_rf v0)]) rfl ?_
          exact p_M_choosing_b78 d v0 h
    · refine gk_lload (pc := 56) 0 d_M_choosing_56 rfl ?_
      refine gk_lconst (pc := 58) (0 : Int64) d_M_choosing_58 rfl ?_
      refine gk_lcmp (pc := 59) d_M_choosing_59 ?_
      refine gk_if_lt (pc := 60) 78 d_M_choosing_60 rfl (fun _ => ?_) (fun _ => ?_)
      · refine gk_weak [1] (L' := [(0, va_rf v0)]) rfl ?_
        exact p_M_choosing_b78 d v0 h
      · refine gk_lload (pc := 63) 0 d_M_choosing_63 rfl ?_
        refine gk_lload_n (pc := 65) 3 d_M_choosing_65 rfl ?_
        refine gk_lcmp (pc := 66) d_M_choosing_66 ?_
        refine gk_if_gt (pc := 67) 78 d_M_choosing_67 rfl (fun _ => ?_) (fun _ => ?_)
        · refine gk_weak [1] (L' := [(0, va_rf v0)]) rfl ?_
          exact p_M_choosing_b78 d v0 h
        · refine gk_lload_n (pc := 70) 3 d_M_choosing_70 rfl ?_
          refine gk_ldc2 (pc := 71) tw_2020 d_M_choosing_71 ?_
          refine gk_lcmp (pc := 74) d_M_choosing_74 ?_
          refine gk_if_le (pc := 75) 85 d_M_choosing_75 rfl (fun _ => ?_) (fun _ => ?_)
          · refine gk_weak [1, 2, 3, 0] (L' := [(0, va_rf v0), (1, .int v1), (3, .long v3), (5, .long s0)]) rfl ?_
            exact p_M_choosing_b85 d v0 v1 v3 s0 h
          · refine gk_weak [1] (L' := [(0, va_rf v0)]) rfl ?_
            exact p_M_choosing_b78 d v0 h
  · exact gk_vret (pc := 32) rfl d_M_choosing_32 rfl
theorem w_M_choosing (d : Nat) (a0 : Option Nat) (a1 : Int32) (a2 : Int32) (h : gk_H) : gk_P gw_V (d + 5) y_M_choosing b_M_choosing 11 none [] (f_M_choosing a0 a1 a2 h) 0 [(0, va_rf a0), (1, .int a1), (2, .int a2)] [] h := by
  unfold f_M_choosing
  refine gk_aload_n (pc := 0) 0 d_M_choosing_0 rfl ?_
  refine gk_iload_n (pc := 1) 2 d_M_choosing_1 rfl ?_
  refine gk_callV (pc := 2) (d := (d + 4)) (w' := gv_J) (as := [.int a2]) (n := 1) 7 d_M_choosing_2 rfl rfl rfl rfl (Nat.le_of_ble_eq_true rfl) tw_1954 tw_1956 tw_45 tw_99 cw_M_wantWhole hy_M_wantWhole (Nat.le_of_ble_eq_true rfl) (p_M_wantWhole d a0 a2 h) fun x1 h1 => ?_
  refine gk_lstore_n (pc := 5) (L' := [(3, .long x1), (0, va_rf a0), (1, .int a1), (2, .int a2)]) d_M_choosing_5 (Nat.le_of_ble_eq_true rfl) rfl ?_
  refine gk_iload_n (pc := 6) 2 d_M_choosing_6 rfl ?_
  refine gk_bipush (pc := 7) (28 : Int32) d_M_choosing_7 rfl ?_
  refine gk_icmp_ne (pc := 9) 22 d_M_choosing_9 rfl (fun _ => ?_) (fun _ => ?_)
  · refine gk_aload_n (pc := 12) 1 d_M_choosing_12 rfl ?_
    refine gk_iload_n (pc := 13) 3 d_M_choosing_13 rfl ?_
    refine gk_iconst (pc := 14) (1 : Int32) d_M_choosing_14 rfl ?_
    refine gk_iadd (pc := 15) d_M_choosing_15 ?_
    refine gk_callV (pc := 16) (d := (d + 4)) (w' := gv_J) (as := [.int (a2 + (1 : Int32))]) (n := 1) 7 d_M_choosing_16 rfl rfl rfl rfl (Nat.le_of_ble_eq_true rfl) tw_1954 tw_1956 tw_45 tw_99 cw_M_wantWhole hy_M_wantWhole (Nat.le_of_ble_eq_true rfl) (p_M_wantWhole d a0 (a2 + (1 : Int32)) h1) fun x2 h2 => ?_
    refine gk_goto (pc := 19) 23 d_M_choosing_19 rfl ?_
    refine gk_weak [1, 2, 0] (L' := [(0, va_rf a0), (1, .int a1), (3, .long x1)]) rfl ?_
    exact p_M_choosing_b23 d a0 a1 x1 x2 h2
  · refine gk_lconst (pc := 22) (0 : Int64) d_M_choosing_22 rfl ?_
    refine gk_weak [1, 2, 0] (L' := [(0, va_rf a0), (1, .int a1), (3, .long x1)]) rfl ?_
    exact p_M_choosing_b23 d a0 a1 x1 (0 : Int64) h1
theorem p_M_choosing (d : Nat) (a0 : Option Nat) (a1 : Int32) (a2 : Int32) (h : gk_H) : ∀ r h1, f_M_choosing a0 a1 a2 h = some (r, h1) → gk_M (d + 5) y_M_choosing b_M_choosing 11 none [va_rf a0, .int a1, .int a2] h (.inl (gv_V r)) h1 :=
  fun r h1 e => gk_M_of2 (by decide +kernel) (by simp [lv_args, gk_cat_rf, gk_catI, gk_catJ, gk_catD, gv_V, gv_I, gv_J, gv_D, gv_R]) (by simp [lg_sl, gk_cat_rf, gk_catI, gk_catJ, gk_catD, gv_V, gv_I, gv_J, gv_D, gv_R]) (w_M_choosing d a0 a1 a2 h r h1 e)
theorem d_M_divisor_0 : decode b_M_divisor 0 = .ok (.lload_n 0, 1) := by decide +kernel
theorem d_M_divisor_1 : decode b_M_divisor 1 = .ok (.lstore 4, 2) := by decide +kernel
theorem d_M_divisor_3 : decode b_M_divisor 3 = .ok (.lload_n 2, 1) := by decide +kernel
theorem d_M_divisor_4 : decode b_M_divisor 4 = .ok (.lstore 6, 2) := by decide +kernel
theorem d_M_divisor_6 : decode b_M_divisor 6 = .ok (.lload 6, 2) := by decide +kernel
theorem d_M_divisor_8 : decode b_M_divisor 8 = .ok (.lconst 0, 1) := by decide +kernel
theorem d_M_divisor_9 : decode b_M_divisor 9 = .ok (.lcmp, 1) := by decide +kernel
theorem d_M_divisor_10 : decode b_M_divisor 10 = .ok (.ifCond .le 21, 3) := by decide +kernel
theorem d_M_divisor_13 : decode b_M_divisor 13 = .ok (.lload 4, 2) := by decide +kernel
theorem d_M_divisor_15 : decode b_M_divisor 15 = .ok (.lload 6, 2) := by decide +kernel
theorem d_M_divisor_17 : decode b_M_divisor 17 = .ok (.lrem, 1) := by decide +kernel
theorem d_M_divisor_18 : decode b_M_divisor 18 = .ok (.lstore 8, 2) := by decide +kernel
theorem d_M_divisor_20 : decode b_M_divisor 20 = .ok (.lload 6, 2) := by decide +kernel
theorem d_M_divisor_22 : decode b_M_divisor 22 = .ok (.lstore 4, 2) := by decide +kernel
theorem d_M_divisor_24 : decode b_M_divisor 24 = .ok (.lload 8, 2) := by decide +kernel
theorem d_M_divisor_26 : decode b_M_divisor 26 = .ok (.lstore 6, 2) := by decide +kernel
theorem d_M_divisor_28 : decode b_M_divisor 28 = .ok (.goto (-22), 3) := by decide +kernel
theorem d_M_divisor_31 : decode b_M_divisor 31 = .ok (.lload 4, 2) := by decide +kernel
theorem d_M_divisor_33 : decode b_M_divisor 33 = .ok (.lreturn, 1) := by decide +kernel
theorem p_M_divisor_b6 (d : Nat)  : ∀ (fu : Nat) (v4 : Int64) (v6 : Int64) (h : gk_H), gk_P gw_J d y_M_divisor b_M_divisor 10 (some .long) [] (f_M_divisor_b6  fu v4 v6 h) 6 [(4, .long v4), (6, .long v6)] [] h := by
  intro fu
  induction fu with
  | zero => intros; exact gk_none
  | succ fu q6 =>
    intro v4 v6 h
    rw [f_M_divisor_b6]
    refine gk_lload (pc := 6) 1 d_M_divisor_6 rfl ?_
    refine gk_lconst (pc := 8) (0 : Int64) d_M_divisor_8 rfl ?_
    refine gk_lcmp (pc := 9) d_M_divisor_9 ?_
    refine gk_if_le (pc := 10) 31 d_M_divisor_10 rfl (fun _ => ?_) (fun _ => ?_)
    · refine gk_lload (pc := 31) 0 d_M_divisor_31 rfl ?_
      exact gk_lret (pc := 33) rfl d_M_divisor_33 rfl
    · refine gk_lload (pc := 13) 0 d_M_divisor_13 rfl ?_
      refine gk_lload (pc := 15) 1 d_M_divisor_15 rfl ?_
      refine gk_ite (fun _ => gk_none) fun hz17 => ?_
      refine gk_lrem (pc := 17) hz17 d_M_divisor_17 ?_
      refine gk_topJ (pc := 18) fun x1 => ?_
      refine gk_lstore (pc := 18) (L' := [(8, .long x1), (4, .long v4), (6, .long v6)]) d_M_divisor_18 (Nat.le_of_ble_eq_true rfl) rfl ?_
      refine gk_lload (pc := 20) 2 d_M_divisor_20 rfl ?_
      refine gk_lstore (pc := 22) (L' := [(4, .long v6), (8, .long x1), (6, .long v6)]) d_M_divisor_22 (Nat.le_of_ble_eq_true rfl) rfl ?_
      refine gk_lload (pc := 24) 1 d_M_divisor_24 rfl ?_
      refine gk_lstore (pc := 26) (L' := [(6, .long x1), (4, .long v6), (8, .long x1)]) d_M_divisor_26 (Nat.le_of_ble_eq_true rfl) rfl ?_
      refine gk_goto (pc := 28) 6 d_M_divisor_28 rfl ?_
      refine gk_weak [1, 0] (L' := [(4, .long v6), (6, .long x1)]) rfl ?_
      exact q6 v6 x1 h
theorem w_M_divisor (d : Nat) (a0 : Int64) (a1 : Int64) (h : gk_H) : gk_P gw_J d y_M_divisor b_M_divisor 10 (some .long) [] (f_M_divisor a0 a1 h) 0 [(0, .long a0), (2, .long a1)] [] h := by
  unfold f_M_divisor
  refine gk_lload_n (pc := 0) 0 d_M_divisor_0 rfl ?_
  refine gk_lstore (pc := 1) (L' := [(4, .long a0), (0, .long a0), (2, .long a1)]) d_M_divisor_1 (Nat.le_of_ble_eq_true rfl) rfl ?_
  refine gk_lload_n (pc := 3) 2 d_M_divisor_3 rfl ?_
  refine gk_lstore (pc := 4) (L' := [(6, .long a1), (4, .long a0), (0, .long a0), (2, .long a1)]) d_M_divisor_4 (Nat.le_of_ble_eq_true rfl) rfl ?_
  refine gk_weak [1, 0] (L' := [(4, .long a0), (6, .long a1)]) rfl ?_
  exact p_M_divisor_b6 d gk_F a0 a1 h
theorem p_M_divisor (d : Nat) (a0 : Int64) (a1 : Int64) (h : gk_H) : ∀ r h1, f_M_divisor a0 a1 h = some (r, h1) → gk_M d y_M_divisor b_M_divisor 10 (some .long) [.long a0, .long a1] h (.inl (gv_J r)) h1 :=
  fun r h1 e => gk_M_of2 (by decide +kernel) (by simp [lv_args, gk_cat_rf, gk_catI, gk_catJ, gk_catD, gv_V, gv_I, gv_J, gv_D, gv_R]) (by simp [lg_sl, gk_cat_rf, gk_catI, gk_catJ, gk_catD, gv_V, gv_I, gv_J, gv_D, gv_R]) (w_M_divisor d a0 a1 h r h1 e)
