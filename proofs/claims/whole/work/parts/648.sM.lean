theorem d_M_index_0 : decode b_M_index 0 = .ok (.aload_n 0, 1) := by decide +kernel
theorem d_M_index_1 : decode b_M_index 1 = .ok (.iload_n 1, 1) := by decide +kernel
theorem d_M_index_2 : decode b_M_index 2 = .ok (.iconst 1, 1) := by decide +kernel
theorem d_M_index_3 : decode b_M_index 3 = .ok (.iadd, 1) := by decide +kernel
theorem d_M_index_4 : decode b_M_index 4 = .ok (.invokevirtual 296, 3) := by decide +kernel
theorem d_M_index_7 : decode b_M_index 7 = .ok (.lstore_n 3, 1) := by decide +kernel
theorem d_M_index_8 : decode b_M_index 8 = .ok (.iload_n 2, 1) := by decide +kernel
theorem d_M_index_9 : decode b_M_index 9 = .ok (.iconst 3, 1) := by decide +kernel
theorem d_M_index_10 : decode b_M_index 10 = .ok (.if_icmp .ne 13, 3) := by decide +kernel
theorem d_M_index_13 : decode b_M_index 13 = .ok (.aload_n 0, 1) := by decide +kernel
theorem d_M_index_14 : decode b_M_index 14 = .ok (.iload_n 1, 1) := by decide +kernel
theorem d_M_index_15 : decode b_M_index 15 = .ok (.iconst 2, 1) := by decide +kernel
theorem d_M_index_16 : decode b_M_index 16 = .ok (.iadd, 1) := by decide +kernel
theorem d_M_index_17 : decode b_M_index 17 = .ok (.invokevirtual 296, 3) := by decide +kernel
theorem d_M_index_20 : decode b_M_index 20 = .ok (.goto 4, 3) := by decide +kernel
theorem d_M_index_23 : decode b_M_index 23 = .ok (.lconst 0, 1) := by decide +kernel
theorem d_M_index_24 : decode b_M_index 24 = .ok (.lstore 5, 2) := by decide +kernel
theorem d_M_index_26 : decode b_M_index 26 = .ok (.aload_n 0, 1) := by decide +kernel
theorem d_M_index_27 : decode b_M_index 27 = .ok (.getfield 62, 3) := by decide +kernel
theorem d_M_index_30 : decode b_M_index 30 = .ok (.ifCond .le 4, 3) := by decide +kernel
theorem d_M_index_33 : decode b_M_index 33 = .ok (.return_, 1) := by decide +kernel
theorem d_M_index_34 : decode b_M_index 34 = .ok (.iload_n 2, 1) := by decide +kernel
theorem d_M_index_35 : decode b_M_index 35 = .ok (.iconst 2, 1) := by decide +kernel
theorem d_M_index_36 : decode b_M_index 36 = .ok (.if_icmp .ne 17, 3) := by decide +kernel
theorem d_M_index_39 : decode b_M_index 39 = .ok (.aload_n 0, 1) := by decide +kernel
theorem d_M_index_40 : decode b_M_index 40 = .ok (.getfield 17, 3) := by decide +kernel
theorem d_M_index_43 : decode b_M_index 43 = .ok (.iload_n 1, 1) := by decide +kernel
theorem d_M_index_44 : decode b_M_index 44 = .ok (.iaload, 1) := by decide +kernel
theorem d_M_index_45 : decode b_M_index 45 = .ok (.iconst 1, 1) := by decide +kernel
theorem d_M_index_46 : decode b_M_index 46 = .ok (.if_icmp .ne 7, 3) := by decide +kernel
theorem d_M_index_49 : decode b_M_index 49 = .ok (.iconst 1, 1) := by decide +kernel
theorem d_M_index_50 : decode b_M_index 50 = .ok (.goto 4, 3) := by decide +kernel
theorem d_M_index_53 : decode b_M_index 53 = .ok (.iconst 0, 1) := by decide +kernel
theorem d_M_index_54 : decode b_M_index 54 = .ok (.istore 7, 2) := by decide +kernel
theorem d_M_index_56 : decode b_M_index 56 = .ok (.iload 7, 2) := by decide +kernel
theorem d_M_index_58 : decode b_M_index 58 = .ok (.ifCond .eq 17, 3) := by decide +kernel
theorem d_M_index_61 : decode b_M_index 61 = .ok (.lload_n 3, 1) := by decide +kernel
theorem d_M_index_62 : decode b_M_index 62 = .ok (.lconst 0, 1) := by decide +kernel
theorem d_M_index_63 : decode b_M_index 63 = .ok (.lcmp, 1) := by decide +kernel
theorem d_M_index_64 : decode b_M_index 64 = .ok (.ifCond .ne 7, 3) := by decide +kernel
theorem d_M_index_67 : decode b_M_index 67 = .ok (.lconst 0, 1) := by decide +kernel
theorem d_M_index_68 : decode b_M_index 68 = .ok (.goto 8, 3) := by decide +kernel
theorem d_M_index_71 : decode b_M_index 71 = .ok (.lconst 1, 1) := by decide +kernel
theorem d_M_index_72 : decode b_M_index 72 = .ok (.goto 4, 3) := by decide +kernel
theorem d_M_index_75 : decode b_M_index 75 = .ok (.lload_n 3, 1) := by decide +kernel
theorem d_M_index_76 : decode b_M_index 76 = .ok (.lstore 8, 2) := by decide +kernel
theorem d_M_index_78 : decode b_M_index 78 = .ok (.iload 7, 2) := by decide +kernel
theorem d_M_index_80 : decode b_M_index 80 = .ok (.ifCond .eq 7, 3) := by decide +kernel
theorem d_M_index_83 : decode b_M_index 83 = .ok (.lload_n 3, 1) := by decide +kernel
theorem d_M_index_84 : decode b_M_index 84 = .ok (.goto 30, 3) := by decide +kernel
theorem d_M_index_87 : decode b_M_index 87 = .ok (.iload_n 2, 1) := by decide +kernel
theorem d_M_index_88 : decode b_M_index 88 = .ok (.iconst 2, 1) := by decide +kernel
theorem d_M_index_89 : decode b_M_index 89 = .ok (.if_icmp .ne 23, 3) := by decide +kernel
theorem d_M_index_92 : decode b_M_index 92 = .ok (.aload_n 0, 1) := by decide +kernel
theorem d_M_index_93 : decode b_M_index 93 = .ok (.getfield 20, 3) := by decide +kernel
theorem d_M_index_96 : decode b_M_index 96 = .ok (.iload_n 1, 1) := by decide +kernel
theorem d_M_index_97 : decode b_M_index 97 = .ok (.iaload, 1) := by decide +kernel
theorem d_M_index_98 : decode b_M_index 98 = .ok (.iconst 1, 1) := by decide +kernel
theorem d_M_index_99 : decode b_M_index 99 = .ok (.if_icmp .ne 13, 3) := by decide +kernel
theorem d_M_index_102 : decode b_M_index 102 = .ok (.lload_n 3, 1) := by decide +kernel
theorem d_M_index_103 : decode b_M_index 103 = .ok (.lconst 0, 1) := by decide +kernel
theorem d_M_index_104 : decode b_M_index 104 = .ok (.lcmp, 1) := by decide +kernel
theorem d_M_index_105 : decode b_M_index 105 = .ok (.ifCond .eq 7, 3) := by decide +kernel
theorem d_M_index_108 : decode b_M_index 108 = .ok (.lconst 1, 1) := by decide +kernel
theorem d_M_index_109 : decode b_M_index 109 = .ok (.goto 5, 3) := by decide +kernel
theorem d_M_index_112 : decode b_M_index 112 = .ok (.lload 5, 2) := by decide +kernel
theorem d_M_index_114 : decode b_M_index 114 = .ok (.lstore 10, 2) := by decide +kernel
theorem d_M_index_116 : decode b_M_index 116 = .ok (.lload_n 3, 1) := by decide +kernel
theorem d_M_index_117 : decode b_M_index 117 = .ok (.lconst 0, 1) := by decide +kernel
theorem d_M_index_118 : decode b_M_index 118 = .ok (.lcmp, 1) := by decide +kernel
theorem d_M_index_119 : decode b_M_index 119 = .ok (.ifCond .lt 10, 3) := by decide +kernel
theorem d_M_index_122 : decode b_M_index 122 = .ok (.lload 5, 2) := by decide +kernel
theorem d_M_index_124 : decode b_M_index 124 = .ok (.lconst 0, 1) := by decide +kernel
theorem d_M_index_125 : decode b_M_index 125 = .ok (.lcmp, 1) := by decide +kernel
theorem d_M_index_126 : decode b_M_index 126 = .ok (.ifCond .ge 9, 3) := by decide +kernel
theorem d_M_index_129 : decode b_M_index 129 = .ok (.aload_n 0, 1) := by decide +kernel
theorem d_M_index_130 : decode b_M_index 130 = .ok (.iconst 3, 1) := by decide +kernel
theorem d_M_index_131 : decode b_M_index 131 = .ok (.invokevirtual 58, 3) := by decide +kernel
theorem d_M_index_134 : decode b_M_index 134 = .ok (.return_, 1) := by decide +kernel
theorem d_M_index_135 : decode b_M_index 135 = .ok (.lload 8, 2) := by decide +kernel
theorem d_M_index_137 : decode b_M_index 137 = .ok (.aload_n 0, 1) := by decide +kernel
theorem d_M_index_138 : decode b_M_index 138 = .ok (.getfield 17, 3) := by decide +kernel
theorem d_M_index_141 : decode b_M_index 141 = .ok (.iload_n 1, 1) := by decide +kernel
theorem d_M_index_142 : decode b_M_index 142 = .ok (.iaload, 1) := by decide +kernel
theorem d_M_index_143 : decode b_M_index 143 = .ok (.i2l, 1) := by decide +kernel
theorem d_M_index_144 : decode b_M_index 144 = .ok (.lcmp, 1) := by decide +kernel
theorem d_M_index_145 : decode b_M_index 145 = .ok (.ifCond .gt 16, 3) := by decide +kernel
theorem d_M_index_148 : decode b_M_index 148 = .ok (.lload 10, 2) := by decide +kernel
theorem d_M_index_150 : decode b_M_index 150 = .ok (.aload_n 0, 1) := by decide +kernel
theorem d_M_index_151 : decode b_M_index 151 = .ok (.getfield 20, 3) := by decide +kernel
theorem d_M_index_154 : decode b_M_index 154 = .ok (.iload_n 1, 1) := by decide +kernel
theorem d_M_index_155 : decode b_M_index 155 = .ok (.iaload, 1) := by decide +kernel
theorem d_M_index_156 : decode b_M_index 156 = .ok (.i2l, 1) := by decide +kernel
theorem d_M_index_157 : decode b_M_index 157 = .ok (.lcmp, 1) := by decide +kernel
theorem d_M_index_158 : decode b_M_index 158 = .ok (.ifCond .le 9, 3) := by decide +kernel
theorem d_M_index_161 : decode b_M_index 161 = .ok (.aload_n 0, 1) := by decide +kernel
theorem d_M_index_162 : decode b_M_index 162 = .ok (.iconst 4, 1) := by decide +kernel
theorem d_M_index_163 : decode b_M_index 163 = .ok (.invokevirtual 58, 3) := by decide +kernel
theorem d_M_index_166 : decode b_M_index 166 = .ok (.return_, 1) := by decide +kernel
theorem d_M_index_167 : decode b_M_index 167 = .ok (.lload 8, 2) := by decide +kernel
theorem d_M_index_169 : decode b_M_index 169 = .ok (.lconst 0, 1) := by decide +kernel
theorem d_M_index_170 : decode b_M_index 170 = .ok (.lcmp, 1) := by decide +kernel
theorem d_M_index_171 : decode b_M_index 171 = .ok (.ifCond .le 40, 3) := by decide +kernel
theorem d_M_index_174 : decode b_M_index 174 = .ok (.lload 10, 2) := by decide +kernel
theorem d_M_index_176 : decode b_M_index 176 = .ok (.lconst 0, 1) := by decide +kernel
theorem d_M_index_177 : decode b_M_index 177 = .ok (.lcmp, 1) := by decide +kernel
theorem d_M_index_178 : decode b_M_index 178 = .ok (.ifCond .le 33, 3) := by decide +kernel
theorem d_M_index_181 : decode b_M_index 181 = .ok (.aload_n 0, 1) := by decide +kernel
theorem d_M_index_182 : decode b_M_index 182 = .ok (.bipush 16, 2) := by decide +kernel
theorem d_M_index_184 : decode b_M_index 184 = .ok (.iload_n 1, 1) := by decide +kernel
theorem d_M_index_185 : decode b_M_index 185 = .ok (.imul, 1) := by decide +kernel
theorem d_M_index_186 : decode b_M_index 186 = .ok (.lload 8, 2) := by decide +kernel
theorem d_M_index_188 : decode b_M_index 188 = .ok (.l2i, 1) := by decide +kernel
theorem d_M_index_189 : decode b_M_index 189 = .ok (.iconst 1, 1) := by decide +kernel
theorem d_M_index_190 : decode b_M_index 190 = .ok (.isub, 1) := by decide +kernel
theorem d_M_index_191 : decode b_M_index 191 = .ok (.aload_n 0, 1) := by decide +kernel
theorem d_M_index_192 : decode b_M_index 192 = .ok (.getfield 20, 3) := by decide +kernel
theorem d_M_index_195 : decode b_M_index 195 = .ok (.iload_n 1, 1) := by decide +kernel
theorem d_M_index_196 : decode b_M_index 196 = .ok (.iaload, 1) := by decide +kernel
theorem d_M_index_197 : decode b_M_index 197 = .ok (.imul, 1) := by decide +kernel
theorem d_M_index_198 : decode b_M_index 198 = .ok (.iadd, 1) := by decide +kernel
theorem d_M_index_199 : decode b_M_index 199 = .ok (.lload 10, 2) := by decide +kernel
theorem d_M_index_201 : decode b_M_index 201 = .ok (.l2i, 1) := by decide +kernel
theorem d_M_index_202 : decode b_M_index 202 = .ok (.iadd, 1) := by decide +kernel
theorem d_M_index_203 : decode b_M_index 203 = .ok (.iconst 1, 1) := by decide +kernel
theorem d_M_index_204 : decode b_M_index 204 = .ok (.isub, 1) := by decide +kernel
theorem d_M_index_205 : decode b_M_index 205 = .ok (.invokevirtual 380, 3) := by decide +kernel
theorem d_M_index_208 : decode b_M_index 208 = .ok (.goto 78, 3) := by decide +kernel
theorem d_M_index_211 : decode b_M_index 211 = .ok (.aload_n 0, 1) := by decide +kernel
theorem d_M_index_212 : decode b_M_index 212 = .ok (.iload_n 1, 1) := by decide +kernel
theorem d_M_index_213 : decode b_M_index 213 = .ok (.lload 8, 2) := by decide +kernel
theorem d_M_index_215 : decode b_M_index 215 = .ok (.lconst 0, 1) := by decide +kernel
theorem d_M_index_216 : decode b_M_index 216 = .ok (.lcmp, 1) := by decide +kernel
theorem d_M_index_217 : decode b_M_index 217 = .ok (.ifCond .ne 7, 3) := by decide +kernel
theorem d_M_index_220 : decode b_M_index 220 = .ok (.iconst 0, 1) := by decide +kernel
theorem d_M_index_221 : decode b_M_index 221 = .ok (.goto 8, 3) := by decide +kernel
theorem d_M_index_224 : decode b_M_index 224 = .ok (.lload 8, 2) := by decide +kernel
theorem d_M_index_226 : decode b_M_index 226 = .ok (.l2i, 1) := by decide +kernel
theorem d_M_index_227 : decode b_M_index 227 = .ok (.iconst 1, 1) := by decide +kernel
theorem d_M_index_228 : decode b_M_index 228 = .ok (.isub, 1) := by decide +kernel
theorem d_M_index_229 : decode b_M_index 229 = .ok (.lload 8, 2) := by decide +kernel
theorem d_M_index_231 : decode b_M_index 231 = .ok (.lconst 0, 1) := by decide +kernel
theorem d_M_index_232 : decode b_M_index 232 = .ok (.lcmp, 1) := by decide +kernel
theorem d_M_index_233 : decode b_M_index 233 = .ok (.ifCond .ne 12, 3) := by decide +kernel
theorem d_M_index_236 : decode b_M_index 236 = .ok (.aload_n 0, 1) := by decide +kernel
theorem d_M_index_237 : decode b_M_index 237 = .ok (.getfield 17, 3) := by decide +kernel
theorem d_M_index_240 : decode b_M_index 240 = .ok (.iload_n 1, 1) := by decide +kernel
theorem d_M_index_241 : decode b_M_index 241 = .ok (.iaload, 1) := by decide +kernel
theorem d_M_index_242 : decode b_M_index 242 = .ok (.goto 6, 3) := by decide +kernel
theorem d_M_index_245 : decode b_M_index 245 = .ok (.lload 8, 2) := by decide +kernel
theorem d_M_index_247 : decode b_M_index 247 = .ok (.l2i, 1) := by decide +kernel
theorem d_M_index_248 : decode b_M_index 248 = .ok (.lload 10, 2) := by decide +kernel
theorem d_M_index_250 : decode b_M_index 250 = .ok (.lconst 0, 1) := by decide +kernel
theorem d_M_index_251 : decode b_M_index 251 = .ok (.lcmp, 1) := by decide +kernel
theorem d_M_index_252 : decode b_M_index 252 = .ok (.ifCond .ne 7, 3) := by decide +kernel
theorem d_M_index_255 : decode b_M_index 255 = .ok (.iconst 0, 1) := by decide +kernel
theorem d_M_index_256 : decode b_M_index 256 = .ok (.goto 8, 3) := by decide +kernel
theorem d_M_index_259 : decode b_M_index 259 = .ok (.lload 10, 2) := by decide +kernel
theorem d_M_index_261 : decode b_M_index 261 = .ok (.l2i, 1) := by decide +kernel
theorem d_M_index_262 : decode b_M_index 262 = .ok (.iconst 1, 1) := by decide +kernel
theorem d_M_index_263 : decode b_M_index 263 = .ok (.isub, 1) := by decide +kernel
theorem d_M_index_264 : decode b_M_index 264 = .ok (.lload 10, 2) := by decide +kernel
theorem d_M_index_266 : decode b_M_index 266 = .ok (.lconst 0, 1) := by decide +kernel
theorem d_M_index_267 : decode b_M_index 267 = .ok (.lcmp, 1) := by decide +kernel
theorem d_M_index_268 : decode b_M_index 268 = .ok (.ifCond .ne 12, 3) := by decide +kernel
theorem d_M_index_271 : decode b_M_index 271 = .ok (.aload_n 0, 1) := by decide +kernel
theorem d_M_index_272 : decode b_M_index 272 = .ok (.getfield 20, 3) := by decide +kernel
theorem d_M_index_275 : decode b_M_index 275 = .ok (.iload_n 1, 1) := by decide +kernel
theorem d_M_index_276 : decode b_M_index 276 = .ok (.iaload, 1) := by decide +kernel
theorem d_M_index_277 : decode b_M_index 277 = .ok (.goto 6, 3) := by decide +kernel
theorem d_M_index_280 : decode b_M_index 280 = .ok (.lload 10, 2) := by decide +kernel
theorem d_M_index_282 : decode b_M_index 282 = .ok (.l2i, 1) := by decide +kernel
theorem d_M_index_283 : decode b_M_index 283 = .ok (.invokevirtual 423, 3) := by decide +kernel
theorem d_M_index_286 : decode b_M_index 286 = .ok (.return_, 1) := by decide +kernel
theorem p_M_index_b129 (d : Nat)  (v0 : Option Nat) (h : gk_H) : gk_P gw_V (d + 5) y_M_index b_M_index 12 none [] (f_M_index_b129  v0 h) 129 [(0, va_rf v0)] [] h := by
  unfold f_M_index_b129
  refine gk_aload_n (pc := 129) 0 d_M_index_129 rfl ?_
  refine gk_iconst (pc := 130) (3 : Int32) d_M_index_130 rfl ?_
  refine gk_callV (pc := 131) (d := (d + 4)) (w' := gv_V) (as := [.int (3 : Int32)]) (n := 1) 7 d_M_index_131 rfl rfl rfl rfl (Nat.le_of_ble_eq_true rfl) tw_1805 tw_1807 tw_21 tw_99 cw_M_fail hy_M_fail (Nat.le_of_ble_eq_true rfl) (p_M_fail (d + 4) v0 (3 : Int32) h) fun _ h1 => ?_
  exact gk_vret (pc := 134) rfl d_M_index_134 rfl
theorem p_M_index_b161 (d : Nat)  (v0 : Option Nat) (h : gk_H) : gk_P gw_V (d + 5) y_M_index b_M_index 12 none [] (f_M_index_b161  v0 h) 161 [(0, va_rf v0)] [] h := by
  unfold f_M_index_b161
  refine gk_aload_n (pc := 161) 0 d_M_index_161 rfl ?_
  refine gk_iconst (pc := 162) (4 : Int32) d_M_index_162 rfl ?_
  refine gk_callV (pc := 163) (d := (d + 4)) (w' := gv_V) (as := [.int (4 : Int32)]) (n := 1) 7 d_M_index_163 rfl rfl rfl rfl (Nat.le_of_ble_eq_true rfl) tw_1805 tw_1807 tw_21 tw_99 cw_M_fail hy_M_fail (Nat.le_of_ble_eq_true rfl) (p_M_fail (d + 4) v0 (4 : Int32) h) fun _ h1 => ?_
  exact gk_vret (pc := 166) rfl d_M_index_166 rfl
theorem p_M_index_b286 (d : Nat)   (h : gk_H) : gk_P gw_V (d + 5) y_M_index b_M_index 12 none [] (f_M_index_b286   h) 286 [] [] h := by
  unfold f_M_index_b286
  exact gk_vret (pc := 286) rfl d_M_index_286 rfl
theorem p_M_index_b283 (d : Nat)  (s0 : Option Nat) (s1 : Int32) (s2 : Int32) (s3 : Int32) (s4 : Int32) (s5 : Int32) (h : gk_H) : gk_P gw_V (d + 5) y_M_index b_M_index 12 none [] (f_M_index_b283  s0 s1 s2 s3 s4 s5 h) 283 [] [.int s5, .int s4, .int s3, .int s2, .int s1, va_rf s0] h := by
  unfold f_M_index_b283
  refine gk_callV (pc := 283) (d := (d + 4)) (w' := gv_V) (as := [.int s1, .int s2, .int s3, .int s4, .int s5]) (n := 5) 7 d_M_index_283 rfl rfl rfl rfl (Nat.le_of_ble_eq_true rfl) tw_2116 tw_2118 tw_80 tw_99 cw_M_part hy_M_part (Nat.le_of_ble_eq_true rfl) (p_M_part (d + 3) s0 s1 s2 s3 s4 s5 h) fun _ h1 => ?_
  exact p_M_index_b286 d h1
theorem p_M_index_b264 (d : Nat)  (v0 : Option Nat) (v1 : Int32) (v10 : Int64) (s0 : Option Nat) (s1 : Int32) (s2 : Int32) (s3 : Int32) (s4 : Int32) (h : gk_H) : gk_P gw_V (d + 5) y_M_index b_M_index 12 none [] (f_M_index_b264  v0 v1 v10 s0 s1 s2 s3 s4 h) 264 [(0, va_rf v0), (1, .int v1), (10, .long v10)] [.int s4, .int s3, .int s2, .int s1, va_rf s0] h := by
  unfold f_M_index_b264
  refine gk_lload (pc := 264) 2 d_M_index_264 rfl ?_
  refine gk_lconst (pc := 266) (0 : Int64) d_M_index_266 rfl ?_
  refine gk_lcmp (pc := 267) d_M_index_267 ?_
  refine gk_if_ne (pc := 268) 280 d_M_index_268 rfl (fun _ => ?_) (fun _ => ?_)
  · refine gk_aload_n (pc := 271) 0 d_M_index_271 rfl ?_
    refine gk_getR (pc := 272) 7 6 d_M_index_272 rfl (Nat.le_of_ble_eq_true rfl) tw_1651 fun x1 => ?_
    refine gk_iload_n (pc := 275) 1 d_M_index_275 rfl ?_
    refine gk_iald (pc := 276) d_M_index_276 fun x2 => ?_
    refine gk_goto (pc := 277) 283 d_M_index_277 rfl ?_
    refine gk_weak [] (L' := []) rfl ?_
    exact p_M_index_b283 d s0 s1 s2 s3 s4 x2 h
  · refine gk_lload (pc := 280) 2 d_M_index_280 rfl ?_
    refine gk_l2i (pc := 282) d_M_index_282 ?_
    refine gk_weak [] (L' := []) rfl ?_
    exact p_M_index_b283 d s0 s1 s2 s3 s4 (Int64.toInt32 v10) h
theorem p_M_index_b248 (d : Nat)  (v0 : Option Nat) (v1 : Int32) (v10 : Int64) (s0 : Option Nat) (s1 : Int32) (s2 : Int32) (s3 : Int32) (h : gk_H) : gk_P gw_V (d + 5) y_M_index b_M_index 12 none [] (f_M_index_b248  v0 v1 v10 s0 s1 s2 s3 h) 248 [(0, va_rf v0), (1, .int v1), (10, .long v10)] [.int s3, .int s2, .int s1, va_rf s0] h := by
  unfold f_M_index_b248
  refine gk_lload (pc := 248) 2 d_M_index_248 rfl ?_
  refine gk_lconst (pc := 250) (0 : Int64) d_M_index_250 rfl ?_
  refine gk_lcmp (pc := 251) d_M_index_251 ?_
  refine gk_if_ne (pc := 252) 259 d_M_index_252 rfl (fun _ => ?_) (fun _ => ?_)
  · refine gk_iconst (pc := 255) (0 : Int32) d_M_index_255 rfl ?_
    refine gk_goto (pc := 256) 264 d_M_index_256 rfl ?_
    exact p_M_index_b264 d v0 v1 v10 s0 s1 s2 s3 (0 : Int32) h
  · refine gk_lload (pc := 259) 2 d_M_index_259 rfl ?_
    refine gk_l2i (pc := 261) d_M_index_261 ?_
    refine gk_iconst (pc := 262) (1 : Int32) d_M_index_262 rfl ?_
    refine gk_isub (pc := 263) d_M_index_263 ?_
    exact p_M_index_b264 d v0 v1 v10 s0 s1 s2 s3 ((Int64.toInt32 v10) - (1 : Int32)) h
theorem p_M_index_b229 (d : Nat)  (v0 : Option Nat) (v1 : Int32) (v8 : Int64) (v10 : Int64) (s0 : Option Nat) (s1 : Int32) (s2 : Int32) (h : gk_H) : gk_P gw_V (d + 5) y_M_index b_M_index 12 none [] (f_M_index_b229  v0 v1 v8 v10 s0 s1 s2 h) 229 [(0, va_rf v0), (1, .int v1), (8, .long v8), (10, .long v10)] [.int s2, .int s1, va_rf s0] h := by
  unfold f_M_index_b229
  refine gk_lload (pc := 229) 2 d_M_index_229 rfl ?_
  refine gk_lconst (pc := 231) (0 : Int64) d_M_index_231 rfl ?_
  refine gk_lcmp (pc := 232) d_M_index_232 ?_
  refine gk_if_ne (pc := 233) 245 d_M_index_233 rfl (fun _ => ?_) (fun _ => ?_)
  · refine gk_aload_n (pc := 236) 0 d_M_index_236 rfl ?_
    refine gk_getR (pc := 237) 7 5 d_M_index_237 rfl (Nat.le_of_ble_eq_true rfl) tw_1650 fun x1 => ?_
    refine gk_iload_n (pc := 240) 1 d_M_index_240 rfl ?_
    refine gk_iald (pc := 241) d_M_index_241 fun x2 => ?_
    refine gk_goto (pc := 242) 248 d_M_index_242 rfl ?_
    refine gk_weak [0, 1, 3] (L' := [(0, va_rf v0), (1, .int v1), (10, .long v10)]) rfl ?_
    exact p_M_index_b248 d v0 v1 v10 s0 s1 s2 x2 h
  · refine gk_lload (pc := 245) 2 d_M_index_245 rfl ?_
    refine gk_l2i (pc := 247) d_M_index_247 ?_
    refine gk_weak [0, 1, 3] (L' := [(0, va_rf v0), (1, .int v1), (10, .long v10)]) rfl ?_
    exact p_M_index_b248 d v0 v1 v10 s0 s1 s2 (Int64.toInt32 v8) h
theorem p_M_index_b211 (d : Nat)  (v0 : Option Nat) (v1 : Int32) (v8 : Int64) (v10 : Int64) (h : gk_H) : gk_P gw_V (d + 5) y_M_index b_M_index 12 none [] (f_M_index_b211  v0 v1 v8 v10 h) 211 [(0, va_rf v0), (1, .int v1), (8, .long v8), (10, .long v10)] [] h := by
  unfold f_M_index_b211
  refine gk_aload_n (pc := 211) 0 d_M_index_211 rfl ?_
  refine gk_iload_n (pc := 212) 1 d_M_index_212 rfl ?_
  refine gk_lload (pc := 213) 2 d_M_index_213 rfl ?_
  refine gk_lconst (pc := 215) (0 : Int64) d_M_index_215 rfl ?_
  refine gk_lcmp (pc := 216) d_M_index_216 ?_
  refine gk_if_ne (pc := 217) 224 d_M_index_217 rfl (fun _ => ?_) (fun _ => ?_)
  · refine gk_iconst (pc := 220) (0 : Int32) d_M_index_220 rfl ?_
    refine gk_goto (pc := 221) 229 d_M_index_221 rfl ?_
    exact p_M_index_b229 d v0 v1 v8 v10 v0 v1 (0 : Int32) h
  · refine gk_lload (pc := 224) 2 d_M_index_224 rfl ?_
    refine gk_l2i (pc := 226) d_M_index_226 ?_
    refine gk_iconst (pc := 227) (1 : Int32) d_M_index_227 rfl ?_
    refine gk_isub (pc := 228) d_M_index_228 ?_
    exact p_M_index_b229 d v0 v1 v8 v10 v0 v1 ((Int64.toInt32 v8) - (1 : Int32)) h
theorem p_M_index_b114 (d : Nat)  (v0 : Option Nat) (v1 : Int32) (v3 : Int64) (v5 : Int64) (v8 : Int64) (s0 : Int64) (h : gk_H) : gk_P gw_V (d + 5) y_M_index b_M_index 12 none [] (f_M_index_b114  v0 v1 v3 v5 v8 s0 h) 114 [(0, va_rf v0), (1, .int v1), (3, .long v3), (5, .long v5), (8, .long v8)] [.long s0] h := by
  unfold f_M_index_b114
  refine gk_lstore (pc := 114) (L' := [(10, .long s0), (0, va_rf v0), (1, .int v1), (3, .long v3), (5, .long v5), (8, .long v8)]) d_M_index_114 (Nat.le_of_ble_eq_true rfl) rfl ?_
  refine gk_lload_n (pc := 116) 3 d_M_index_116 rfl ?_
  refine gk_lconst (pc := 117) (0 : Int64) d_M_index_117 rfl ?_
  refine gk_lcmp (pc := 118) d_M_index_118 ?_
  refine gk_if_lt (pc := 119) 129 d_M_index_119 rfl (fun _ => ?_) (fun _ => ?_)
  · refine gk_weak [1] (L' := [(0, va_rf v0)]) rfl ?_
    exact p_M_index_b129 d v0 h
  · refine gk_lload (pc := 122) 4 d_M_index_122 rfl ?_
    refine gk_lconst (pc := 124) (0 : Int64) d_M_index_124 rfl ?_
    refine gk_lcmp (pc := 125) d_M_index_125 ?_
    refine gk_if_ge (pc := 126) 135 d_M_index_126 rfl (fun _ => ?_) (fun _ => ?_)
    · refine gk_lload (pc := 135) 5 d_M_index_135 rfl ?_
      refine gk_aload_n (pc := 137) 1 d_M_index_137 rfl ?_
      refine gk_getR (pc := 138) 7 5 d_M_index_138 rfl (Nat.le_of_ble_eq_true rfl) tw_1650 fun x1 => ?_
      refine gk_iload_n (pc := 141) 2 d_M_index_141 rfl ?_
      refine gk_iald (pc := 142) d_M_index_142 fun x2 => ?_
      refine gk_i2l (pc := 143) d_M_index_143 ?_
      refine gk_lcmp (pc := 144) d_M_index_144 ?_
      refine gk_if_gt (pc := 145) 161 d_M_index_145 rfl (fun _ => ?_) (fun _ => ?_)
      · refine gk_weak [1] (L' := [(0, va_rf v0)]) rfl ?_
        exact p_M_index_b161 d v0 h
      · refine gk_lload (pc := 148) 0 d_M_index_148 rfl ?_
        refine gk_aload_n (pc := 150) 1 d_M_index_150 rfl ?_
        refine gk_getR (pc := 151) 7 6 d_M_index_151 rfl (Nat.le_of_ble_eq_true rfl) tw_1651 fun x3 => ?_
        refine gk_iload_n (pc := 154) 2 d_M_index_154 rfl ?_
        refine gk_iald (pc := 155) d_M_index_155 fun x4 => ?_
        refine gk_i2l (pc := 156) d_M_index_156 ?_
        refine gk_lcmp (pc := 157) d_M_index_157 ?_
        refine gk_if_le (pc := 158) 167 d_M_index_158 rfl (fun _ => ?_) (fun _ => ?_)
        · refine gk_lload (pc := 167) 5 d_M_index_167 rfl ?_
          refine gk_lconst (pc := 169) (0 : Int64) d_M_index_169 rfl ?_
          refine gk_lcmp (pc := 170) d_M_index_170 ?_
          refine gk_if_le (pc := 171) 211 d_M_index_171 rfl (fun _ => ?_) (fun _ => ?_)
          · refine gk_weak [1, 2, 5, 0] (L' := [(0, va_rf v0), (1, .int v1), (8, .long v8), (10, .long s0)]) rfl ?_
            exact p_M_index_b211 d v0 v1 v8 s0 h
          · refine gk_lload (pc := 174) 0 d_M_index_174 rfl ?_
            refine gk_lconst (pc := 176) (0 : Int64) d_M_index_176 rfl ?_
            refine gk_lcmp (pc := 177) d_M_index_177 ?_
            refine gk_if_le (pc := 178) 211 d_M_index_178 rfl (fun _ => ?_) (fun _ => ?_)
            · refine gk_weak [1, 2, 5, 0] (L' := [(0, va_rf v0), (1, .int v1), (8, .long v8), (10, .long s0)]) rfl ?_
              exact p_M_index_b211 d v0 v1 v8 s0 h
            · refine gk_aload_n (pc := 181) 1 d_M_index_181 rfl ?_
              refine gk_bipush (pc := 182) (16 : Int32) d_M_index_182 rfl ?_
              refine gk_iload_n (pc := 184) 2 d_M_index_184 rfl ?_
              refine gk_imul (pc := 185) d_M_index_185 ?_
              refine gk_lload (pc := 186) 5 d_M_index_186 rfl ?_
              refine gk_l2i (pc := 188) d_M_index_188 ?_
              refine gk_iconst (pc := 189) (1 : Int32) d_M_index_189 rfl ?_
              refine gk_isub (pc := 190) d_M_index_190 ?_
              refine gk_aload_n (pc := 191) 1 d_M_index_191 rfl ?_
              refine gk_getR (pc := 192) 7 6 d_M_index_192 rfl (Nat.le_of_ble_eq_true rfl) tw_1651 fun x5 => ?_
              refine gk_iload_n (pc := 195) 2 d_M_index_195 rfl ?_
              refine gk_iald (pc := 196) d_M_index_196 fun x6 => ?_
              refine gk_imul (pc := 197) d_M_index_197 ?_
              refine gk_iadd (pc := 198) d_M_index_198 ?_
              refine gk_lload (pc := 199) 0 d_M_index_199 rfl ?_
              refine gk_l2i (pc := 201) d_M_index_201 ?_
              refine gk_iadd (pc := 202) d_M_index_202 ?_
              refine gk_iconst (pc := 203) (1 : Int32) d_M_index_203 rfl ?_
              refine gk_isub (pc := 204) d_M_index_204 ?_
              refine gk_callV (pc := 205) (d := (d + 4)) (w' := gv_V) (as := [.int (((((16 : Int32) * v1) + (((Int64.toInt32 v8) - (1 : Int32)) * x6)) + (Int64.toInt32 s0)) - (1 : Int32))]) (n := 1) 7 d_M_index_205 rfl rfl rfl rfl (Nat.le_of_ble_eq_true rfl) tw_2070 tw_2072 tw_69 tw_99 cw_M_answerCell hy_M_answerCell (Nat.le_of_ble_eq_true rfl) (p_M_answerCell (d + 3) v0 (((((16 : Int32) * v1) + (((Int64.toInt32 v8) - (1 : Int32)) * x6)) + (Int64.toInt32 s0)) - (1 : Int32)) h) fun _ h1 => ?_
              refine gk_goto (pc := 208) 286 d_M_index_208 rfl ?_
              refine gk_weak [] (L' := []) rfl ?_
              exact p_M_index_b286 d h1
        · refine gk_weak [1] (L' := [(0, va_rf v0)]) rfl ?_
          exact p_M_index_b161 d v0 h
    · refine gk_weak [1] (L' := [(0, va_rf v0)]) rfl ?_
      exact p_M_index_b129 d v0 h
theorem p_M_index_b112 (d : Nat)  (v0 : Option Nat) (v1 : Int32) (v3 : Int64) (v5 : Int64) (v8 : Int64) (h : gk_H) : gk_P gw_V (d + 5) y_M_index b_M_index 12 none [] (f_M_index_b112  v0 v1 v3 v5 v8 h) 112 [(0, va_rf v0), (1, .int v1), (3, .long v3), (5, .long v5), (8, .long v8)] [] h := by
  unfold f_M_index_b112
  refine gk_lload (pc := 112) 3 d_M_index_112 rfl ?_
  exact p_M_index_b114 d v0 v1 v3 v5 v8 v5 h
theorem p_M_index_b76 (d : Nat)  (v0 : Option Nat) (v1 : Int32) (v2 : Int32) (v3 : Int64) (v5 : Int64) (v7 : Int32) (s0 : Int64) (h : gk_H) : gk_P gw_V (d + 5) y_M_index b_M_index 12 none [] (f_M_index_b76  v0 v1 v2 v3 v5 v7 s0 h) 76 [(0, va_rf v0), (1, .int v1), (2, .int v2), (3, .long v3), (5, .long v5), (7, .int v7)] [.long s0] h := by
  unfold f_M_index_b76
  refine gk_lstore (pc := 76) (L' := [(8, .long s0), (0, va_rf v0), (1, .int v1), (2, .int v2), (3, .long v3), (5, .long v5), (7, .int v7)]) d_M_index_76 (Nat.le_of_ble_eq_true rfl) rfl ?_
  refine gk_iload (pc := 78) 6 d_M_index_78 rfl ?_
  refine gk_if_eq (pc := 80) 87 d_M_index_80 rfl (fun _ => ?_) (fun _ => ?_)
  · refine gk_iload_n (pc := 87) 3 d_M_index_87 rfl ?_
    refine gk_iconst (pc := 88) (2 : Int32) d_M_index_88 rfl ?_
    refine gk_icmp_ne (pc := 89) 112 d_M_index_89 rfl (fun _ => ?_) (fun _ => ?_)
    · refine gk_aload_n (pc := 92) 1 d_M_index_92 rfl ?_
      refine gk_getR (pc := 93) 7 6 d_M_index_93 rfl (Nat.le_of_ble_eq_true rfl) tw_1651 fun x1 => ?_
      refine gk_iload_n (pc := 96) 2 d_M_index_96 rfl ?_
      refine gk_iald (pc := 97) d_M_index_97 fun x2 => ?_
      refine gk_iconst (pc := 98) (1 : Int32) d_M_index_98 rfl ?_
      refine gk_icmp_ne (pc := 99) 112 d_M_index_99 rfl (fun _ => ?_) (fun _ => ?_)
      · refine gk_lload_n (pc := 102) 4 d_M_index_102 rfl ?_
        refine gk_lconst (pc := 103) (0 : Int64) d_M_index_103 rfl ?_
        refine gk_lcmp (pc := 104) d_M_index_104 ?_
        refine gk_if_eq (pc := 105) 112 d_M_index_105 rfl (fun _ => ?_) (fun _ => ?_)
        · refine gk_weak [1, 2, 4, 5, 0] (L' := [(0, va_rf v0), (1, .int v1), (3, .long v3), (5, .long v5), (8, .long s0)]) rfl ?_
          exact p_M_index_b112 d v0 v1 v3 v5 s0 h
        · refine gk_lconst (pc := 108) (1 : Int64) d_M_index_108 rfl ?_
          refine gk_goto (pc := 109) 114 d_M_index_109 rfl ?_
          refine gk_weak [1, 2, 4, 5, 0] (L' := [(0, va_rf v0), (1, .int v1), (3, .long v3), (5, .long v5), (8, .long s0)]) rfl ?_
          exact p_M_index_b114 d v0 v1 v3 v5 s0 (1 : Int64) h
      · refine gk_weak [1, 2, 4, 5, 0] (L' := [(0, va_rf v0), (1, .int v1), (3, .long v3), (5, .long v5), (8, .long s0)]) rfl ?_
        exact p_M_index_b112 d v0 v1 v3 v5 s0 h
    · refine gk_weak [1, 2, 4, 5, 0] (L' := [(0, va_rf v0), (1, .int v1), (3, .long v3), (5, .long v5), (8, .long s0)]) rfl ?_
      exact p_M_index_b112 d v0 v1 v3 v5 s0 h
  · refine gk_lload_n (pc := 83) 4 d_M_index_83 rfl ?_
    refine gk_goto (pc := 84) 114 d_M_index_84 rfl ?_
    refine gk_weak [1, 2, 4, 5, 0] (L' := [(0, va_rf v0), (1, .int v1), (3, .long v3), (5, .long v5), (8, .long s0)]) rfl ?_
    exact p_M_index_b114 d v0 v1 v3 v5 s0 v3 h
theorem p_M_index_b54 (d : Nat)  (v0 : Option Nat) (v1 : Int32) (v2 : Int32) (v3 : Int64) (v5 : Int64) (s0 : Int32) (h : gk_H) : gk_P gw_V (d + 5) y_M_index b_M_index 12 none [] (f_M_index_b54  v0 v1 v2 v3 v5 s0 h) 54 [(0, va_rf v0), (1, .int v1), (2, .int v2), (3, .long v3), (5, .long v5)] [.int s0] h := by
  unfold f_M_index_b54
  refine gk_istore (pc := 54) (L' := [(7, .int s0), (0, va_rf v0), (1, .int v1), (2, .int v2), (3, .long v3), (5, .long v5)]) d_M_index_54 (Nat.le_of_ble_eq_true rfl) rfl ?_
  refine gk_iload (pc := 56) 0 d_M_index_56 rfl ?_
  refine gk_if_eq (pc := 58) 75 d_M_index_58 rfl (fun _ => ?_) (fun _ => ?_)
  · refine gk_lload_n (pc := 75) 4 d_M_index_75 rfl ?_
    refine gk_weak [1, 2, 3, 4, 5, 0] (L' := [(0, va_rf v0), (1, .int v1), (2, .int v2), (3, .long v3), (5, .long v5), (7, .int s0)]) rfl ?_
    exact p_M_index_b76 d v0 v1 v2 v3 v5 s0 v3 h
  · refine gk_lload_n (pc := 61) 4 d_M_index_61 rfl ?_
    refine gk_lconst (pc := 62) (0 : Int64) d_M_index_62 rfl ?_
    refine gk_lcmp (pc := 63) d_M_index_63 ?_
    refine gk_if_ne (pc := 64) 71 d_M_index_64 rfl (fun _ => ?_) (fun _ => ?_)
    · refine gk_lconst (pc := 67) (0 : Int64) d_M_index_67 rfl ?_
      refine gk_goto (pc := 68) 76 d_M_index_68 rfl ?_
      refine gk_weak [1, 2, 3, 4, 5, 0] (L' := [(0, va_rf v0), (1, .int v1), (2, .int v2), (3, .long v3), (5, .long v5), (7, .int s0)]) rfl ?_
      exact p_M_index_b76 d v0 v1 v2 v3 v5 s0 (0 : Int64) h
    · refine gk_lconst (pc := 71) (1 : Int64) d_M_index_71 rfl ?_
      refine gk_goto (pc := 72) 76 d_M_index_72 rfl ?_
      refine gk_weak [1, 2, 3, 4, 5, 0] (L' := [(0, va_rf v0), (1, .int v1), (2, .int v2), (3, .long v3), (5, .long v5), (7, .int s0)]) rfl ?_
      exact p_M_index_b76 d v0 v1 v2 v3 v5 s0 (1 : Int64) h
theorem p_M_index_b53 (d : Nat)  (v0 : Option Nat) (v1 : Int32) (v2 : Int32) (v3 : Int64) (v5 : Int64) (h : gk_H) : gk_P gw_V (d + 5) y_M_index b_M_index 12 none [] (f_M_index_b53  v0 v1 v2 v3 v5 h) 53 [(0, va_rf v0), (1, .int v1), (2, .int v2), (3, .long v3), (5, .long v5)] [] h := by
  unfold f_M_index_b53
  refine gk_iconst (pc := 53) (0 : Int32) d_M_index_53 rfl ?_
  exact p_M_index_b54 d v0 v1 v2 v3 v5 (0 : Int32) h
theorem p_M_index_b24 (d : Nat)  (v0 : Option Nat) (v1 : Int32) (v2 : Int32) (v3 : Int64) (s0 : Int64) (h : gk_H) : gk_P gw_V (d + 5) y_M_index b_M_index 12 none [] (f_M_index_b24  v0 v1 v2 v3 s0 h) 24 [(0, va_rf v0), (1, .int v1), (2, .int v2), (3, .long v3)] [.long s0] h := by
  unfold f_M_index_b24
  refine gk_lstore (pc := 24) (L' := [(5, .long s0), (0, va_rf v0), (1, .int v1), (2, .int v2), (3, .long v3)]) d_M_index_24 (Nat.le_of_ble_eq_true rfl) rfl ?_
  refine gk_aload_n (pc := 26) 1 d_M_index_26 rfl ?_
  refine gk_getI (pc := 27) 7 11 d_M_index_27 rfl (Nat.le_of_ble_eq_true rfl) tw_1656 fun x1 => ?_
  refine gk_if_le (pc := 30) 34 d_M_index_30 rfl (fun _ => ?_) (fun _ => ?_)
  · refine gk_iload_n (pc := 34) 3 d_M_index_34 rfl ?_
    refine gk_iconst (pc := 35) (2 : Int32) d_M_index_35 rfl ?_
    refine gk_icmp_ne (pc := 36) 53 d_M_index_36 rfl (fun _ => ?_) (fun _ => ?_)
    · refine gk_aload_n (pc := 39) 1 d_M_index_39 rfl ?_
      refine gk_getR (pc := 40) 7 5 d_M_index_40 rfl (Nat.le_of_ble_eq_true rfl) tw_1650 fun x2 => ?_
      refine gk_iload_n (pc := 43) 2 d_M_index_43 rfl ?_
      refine gk_iald (pc := 44) d_M_index_44 fun x3 => ?_
      refine gk_iconst (pc := 45) (1 : Int32) d_M_index_45 rfl ?_
      refine gk_icmp_ne (pc := 46) 53 d_M_index_46 rfl (fun _ => ?_) (fun _ => ?_)
      · refine gk_iconst (pc := 49) (1 : Int32) d_M_index_49 rfl ?_
        refine gk_goto (pc := 50) 54 d_M_index_50 rfl ?_
        refine gk_weak [1, 2, 3, 4, 0] (L' := [(0, va_rf v0), (1, .int v1), (2, .int v2), (3, .long v3), (5, .long s0)]) rfl ?_
        exact p_M_index_b54 d v0 v1 v2 v3 s0 (1 : Int32) h
      · refine gk_weak [1, 2, 3, 4, 0] (L' := [(0, va_rf v0), (1, .int v1), (2, .int v2), (3, .long v3), (5, .long s0)]) rfl ?_
        exact p_M_index_b53 d v0 v1 v2 v3 s0 h
    · refine gk_weak [1, 2, 3, 4, 0] (L' := [(0, va_rf v0), (1, .int v1), (2, .int v2), (3, .long v3), (5, .long s0)]) rfl ?_
      exact p_M_index_b53 d v0 v1 v2 v3 s0 h
  · exact gk_vret (pc := 33) rfl d_M_index_33 rfl
theorem w_M_index (d : Nat) (a0 : Option Nat) (a1 : Int32) (a2 : Int32) (h : gk_H) : gk_P gw_V (d + 5) y_M_index b_M_index 12 none [] (f_M_index a0 a1 a2 h) 0 [(0, va_rf a0), (1, .int a1), (2, .int a2)] [] h := by
  unfold f_M_index
  refine gk_aload_n (pc := 0) 0 d_M_index_0 rfl ?_
  refine gk_iload_n (pc := 1) 1 d_M_index_1 rfl ?_
  refine gk_iconst (pc := 2) (1 : Int32) d_M_index_2 rfl ?_
  refine gk_iadd (pc := 3) d_M_index_3 ?_
  refine gk_callV (pc := 4) (d := (d + 4)) (w' := gv_J) (as := [.int (a1 + (1 : Int32))]) (n := 1) 7 d_M_index_4 rfl rfl rfl rfl (Nat.le_of_ble_eq_true rfl) tw_1954 tw_1956 tw_45 tw_99 cw_M_wantWhole hy_M_wantWhole (Nat.le_of_ble_eq_true rfl) (p_M_wantWhole d a0 (a1 + (1 : Int32)) h) fun x1 h1 => ?_
  refine gk_lstore_n (pc := 7) (L' := [(3, .long x1), (0, va_rf a0), (1, .int a1), (2, .int a2)]) d_M_index_7 (Nat.le_of_ble_eq_true rfl) rfl ?_
  refine gk_iload_n (pc := 8) 3 d_M_index_8 rfl ?_
  refine gk_iconst (pc := 9) (3 : Int32) d_M_index_9 rfl ?_
  refine gk_icmp_ne (pc := 10) 23 d_M_index_10 rfl (fun _ => ?_) (fun _ => ?_)
  · refine gk_aload_n (pc := 13) 1 d_M_index_13 rfl ?_
    refine gk_iload_n (pc := 14) 2 d_M_index_14 rfl ?_
    refine gk_iconst (pc := 15) (2 : Int32) d_M_index_15 rfl ?_
    refine gk_iadd (pc := 16) d_M_index_16 ?_
    refine gk_callV (pc := 17) (d := (d + 4)) (w' := gv_J) (as := [.int (a1 + (2 : Int32))]) (n := 1) 7 d_M_index_17 rfl rfl rfl rfl (Nat.le_of_ble_eq_true rfl) tw_1954 tw_1956 tw_45 tw_99 cw_M_wantWhole hy_M_wantWhole (Nat.le_of_ble_eq_true rfl) (p_M_wantWhole d a0 (a1 + (2 : Int32)) h1) fun x2 h2 => ?_
    refine gk_goto (pc := 20) 24 d_M_index_20 rfl ?_
    refine gk_weak [1, 2, 3, 0] (L' := [(0, va_rf a0), (1, .int a1), (2, .int a2), (3, .long x1)]) rfl ?_
    exact p_M_index_b24 d a0 a1 a2 x1 x2 h2
  · refine gk_lconst (pc := 23) (0 : Int64) d_M_index_23 rfl ?_
    refine gk_weak [1, 2, 3, 0] (L' := [(0, va_rf a0), (1, .int a1), (2, .int a2), (3, .long x1)]) rfl ?_
    exact p_M_index_b24 d a0 a1 a2 x1 (0 : Int64) h1
theorem p_M_index (d : Nat) (a0 : Option Nat) (a1 : Int32) (a2 : Int32) (h : gk_H) : ∀ r h1, f_M_index a0 a1 a2 h = some (r, h1) → gk_M (d + 5) y_M_index b_M_index 12 none [va_rf a0, .int a1, .int a2] h (.inl (gv_V r)) h1 :=
  fun r h1 e => gk_M_of2 (by decide +kernel) (by simp [lv_args, gk_cat_rf, gk_catI, gk_catJ, gk_catD, gv_V, gv_I, gv_J, gv_D, gv_R]) (by simp [lg_sl, gk_cat_rf, gk_catI, gk_catJ, gk_catD, gv_V, gv_I, gv_J, gv_D, gv_R]) (w_M_index d a0 a1 a2 h r h1 e)
theorem d_M_match_0 : decode b_M_match 0 = .ok (.aload_n 0, 1) := by decide +kernel
theorem d_M_match_1 : decode b_M_match 1 = .ok (.getfield 23, 3) := by decide +kernel
theorem d_M_match_4 : decode b_M_match 4 = .ok (.iload_n 1, 1) := by decide +kernel
theorem d_M_match_5 : decode b_M_match 5 = .ok (.iaload, 1) := by decide +kernel
theorem d_M_match_6 : decode b_M_match 6 = .ok (.ifCond .ne 7, 3) := by decide +kernel
theorem d_M_match_9 : decode b_M_match 9 = .ok (.iconst 1, 1) := by decide +kernel
theorem d_M_match_10 : decode b_M_match 10 = .ok (.goto 9, 3) := by decide +kernel
theorem d_M_match_13 : decode b_M_match 13 = .ok (.aload_n 0, 1) := by decide +kernel
theorem d_M_match_14 : decode b_M_match 14 = .ok (.getfield 23, 3) := by decide +kernel
theorem d_M_match_17 : decode b_M_match 17 = .ok (.iload_n 1, 1) := by decide +kernel
theorem d_M_match_18 : decode b_M_match 18 = .ok (.iaload, 1) := by decide +kernel
theorem d_M_match_19 : decode b_M_match 19 = .ok (.istore 6, 2) := by decide +kernel
theorem d_M_match_21 : decode b_M_match 21 = .ok (.iconst (-1), 1) := by decide +kernel
theorem d_M_match_22 : decode b_M_match 22 = .ok (.istore 7, 2) := by decide +kernel
theorem d_M_match_24 : decode b_M_match 24 = .ok (.iconst 0, 1) := by decide +kernel
theorem d_M_match_25 : decode b_M_match 25 = .ok (.istore 8, 2) := by decide +kernel
theorem d_M_match_27 : decode b_M_match 27 = .ok (.iload 8, 2) := by decide +kernel
theorem d_M_match_29 : decode b_M_match 29 = .ok (.iload_n 3, 1) := by decide +kernel
theorem d_M_match_30 : decode b_M_match 30 = .ok (.if_icmp .ge 133, 3) := by decide +kernel
theorem d_M_match_33 : decode b_M_match 33 = .ok (.iload_n 2, 1) := by decide +kernel
theorem d_M_match_34 : decode b_M_match 34 = .ok (.iload 8, 2) := by decide +kernel
theorem d_M_match_36 : decode b_M_match 36 = .ok (.iload 4, 2) := by decide +kernel
theorem d_M_match_38 : decode b_M_match 38 = .ok (.imul, 1) := by decide +kernel
theorem d_M_match_39 : decode b_M_match 39 = .ok (.iadd, 1) := by decide +kernel
theorem d_M_match_40 : decode b_M_match 40 = .ok (.istore 9, 2) := by decide +kernel
theorem d_M_match_42 : decode b_M_match 42 = .ok (.aload_n 0, 1) := by decide +kernel
theorem d_M_match_43 : decode b_M_match 43 = .ok (.getfield 23, 3) := by decide +kernel
theorem d_M_match_46 : decode b_M_match 46 = .ok (.iload 9, 2) := by decide +kernel
theorem d_M_match_48 : decode b_M_match 48 = .ok (.iaload, 1) := by decide +kernel
theorem d_M_match_49 : decode b_M_match 49 = .ok (.iload 6, 2) := by decide +kernel
theorem d_M_match_51 : decode b_M_match 51 = .ok (.if_icmp .ne 106, 3) := by decide +kernel
theorem d_M_match_54 : decode b_M_match 54 = .ok (.iload 5, 2) := by decide +kernel
theorem d_M_match_56 : decode b_M_match 56 = .ok (.ifCond .ne 77, 3) := by decide +kernel
theorem d_M_match_59 : decode b_M_match 59 = .ok (.iload 6, 2) := by decide +kernel
theorem d_M_match_61 : decode b_M_match 61 = .ok (.iconst 2, 1) := by decide +kernel
theorem d_M_match_62 : decode b_M_match 62 = .ok (.if_icmp .ne 43, 3) := by decide +kernel
theorem d_M_match_65 : decode b_M_match 65 = .ok (.aload_n 0, 1) := by decide +kernel
theorem d_M_match_66 : decode b_M_match 66 = .ok (.aload_n 0, 1) := by decide +kernel
theorem d_M_match_67 : decode b_M_match 67 = .ok (.getfield 34, 3) := by decide +kernel
theorem d_M_match_70 : decode b_M_match 70 = .ok (.sipush 256, 3) := by decide +kernel
theorem d_M_match_73 : decode b_M_match 73 = .ok (.iload 9, 2) := by decide +kernel
theorem d_M_match_75 : decode b_M_match 75 = .ok (.imul, 1) := by decide +kernel
theorem d_M_match_76 : decode b_M_match 76 = .ok (.aload_n 0, 1) := by decide +kernel
theorem d_M_match_77 : decode b_M_match 77 = .ok (.getfield 30, 3) := by decide +kernel
theorem d_M_match_80 : decode b_M_match 80 = .ok (.iload 9, 2) := by decide +kernel
theorem d_M_match_82 : decode b_M_match 82 = .ok (.iaload, 1) := by decide +kernel
theorem d_M_match_83 : decode b_M_match 83 = .ok (.aload_n 0, 1) := by decide +kernel
theorem d_M_match_84 : decode b_M_match 84 = .ok (.getfield 34, 3) := by decide +kernel
theorem d_M_match_87 : decode b_M_match 87 = .ok (.sipush 256, 3) := by decide +kernel
theorem d_M_match_90 : decode b_M_match 90 = .ok (.iload_n 1, 1) := by decide +kernel
theorem d_M_match_91 : decode b_M_match 91 = .ok (.imul, 1) := by decide +kernel
theorem d_M_match_92 : decode b_M_match 92 = .ok (.aload_n 0, 1) := by decide +kernel
theorem d_M_match_93 : decode b_M_match 93 = .ok (.getfield 30, 3) := by decide +kernel
theorem d_M_match_96 : decode b_M_match 96 = .ok (.iload_n 1, 1) := by decide +kernel
theorem d_M_match_97 : decode b_M_match 97 = .ok (.iaload, 1) := by decide +kernel
theorem d_M_match_98 : decode b_M_match 98 = .ok (.iconst 0, 1) := by decide +kernel
theorem d_M_match_99 : decode b_M_match 99 = .ok (.invokevirtual 315, 3) := by decide +kernel
theorem d_M_match_102 : decode b_M_match 102 = .ok (.goto 18, 3) := by decide +kernel
theorem d_M_match_105 : decode b_M_match 105 = .ok (.aload_n 0, 1) := by decide +kernel
theorem d_M_match_106 : decode b_M_match 106 = .ok (.iload 9, 2) := by decide +kernel
theorem d_M_match_108 : decode b_M_match 108 = .ok (.iload_n 1, 1) := by decide +kernel
theorem d_M_match_109 : decode b_M_match 109 = .ok (.invokevirtual 186, 3) := by decide +kernel
theorem d_M_match_112 : decode b_M_match 112 = .ok (.ifCond .ne 7, 3) := by decide +kernel
theorem d_M_match_115 : decode b_M_match 115 = .ok (.iconst 1, 1) := by decide +kernel
theorem d_M_match_116 : decode b_M_match 116 = .ok (.goto 4, 3) := by decide +kernel
theorem d_M_match_119 : decode b_M_match 119 = .ok (.iconst 0, 1) := by decide +kernel
theorem d_M_match_120 : decode b_M_match 120 = .ok (.istore 10, 2) := by decide +kernel
theorem d_M_match_122 : decode b_M_match 122 = .ok (.iload 10, 2) := by decide +kernel
theorem d_M_match_124 : decode b_M_match 124 = .ok (.ifCond .eq 6, 3) := by decide +kernel
theorem d_M_match_127 : decode b_M_match 127 = .ok (.iload 8, 2) := by decide +kernel
theorem d_M_match_129 : decode b_M_match 129 = .ok (.ireturn, 1) := by decide +kernel
theorem d_M_match_130 : decode b_M_match 130 = .ok (.goto 27, 3) := by decide +kernel
theorem d_M_match_133 : decode b_M_match 133 = .ok (.aload_n 0, 1) := by decide +kernel
theorem d_M_match_134 : decode b_M_match 134 = .ok (.iload 9, 2) := by decide +kernel
theorem d_M_match_136 : decode b_M_match 136 = .ok (.iload_n 1, 1) := by decide +kernel
theorem d_M_match_137 : decode b_M_match 137 = .ok (.invokevirtual 186, 3) := by decide +kernel
theorem d_M_match_140 : decode b_M_match 140 = .ok (.iload 5, 2) := by decide +kernel
theorem d_M_match_142 : decode b_M_match 142 = .ok (.imul, 1) := by decide +kernel
theorem d_M_match_143 : decode b_M_match 143 = .ok (.istore 10, 2) := by decide +kernel
theorem d_M_match_145 : decode b_M_match 145 = .ok (.iload 10, 2) := by decide +kernel
theorem d_M_match_147 : decode b_M_match 147 = .ok (.ifCond .le 6, 3) := by decide +kernel
theorem d_M_match_150 : decode b_M_match 150 = .ok (.iload 7, 2) := by decide +kernel
theorem d_M_match_152 : decode b_M_match 152 = .ok (.ireturn, 1) := by decide +kernel
theorem d_M_match_153 : decode b_M_match 153 = .ok (.iload 8, 2) := by decide +kernel
theorem d_M_match_155 : decode b_M_match 155 = .ok (.istore 7, 2) := by decide +kernel
theorem d_M_match_157 : decode b_M_match 157 = .ok (.iinc 8 1, 3) := by decide +kernel
theorem d_M_match_160 : decode b_M_match 160 = .ok (.goto (-133), 3) := by decide +kernel
theorem d_M_match_163 : decode b_M_match 163 = .ok (.iload 7, 2) := by decide +kernel
theorem d_M_match_165 : decode b_M_match 165 = .ok (.ireturn, 1) := by decide +kernel
theorem p_M_match_b157 (d : Nat) (b27 : Option Nat → Int32 → Int32 → Int32 → Int32 → Int32 → Int32 → Int32 → Int32 → gk_H → Option (Int32 × gk_H)) (q27 : ∀ (v0 : Option Nat) (v1 : Int32) (v2 : Int32) (v3 : Int32) (v4 : Int32) (v5 : Int32) (v6 : Int32) (v7 : Int32) (v8 : Int32) (h : gk_H), gk_P gw_I (d + 3) y_M_match b_M_match 11 (some .int) [] (b27 v0 v1 v2 v3 v4 v5 v6 v7 v8 h) 27 [(0, va_rf v0), (1, .int v1), (2, .int v2), (3, .int v3), (4, .int v4), (5, .int v5), (6, .int v6), (7, .int v7), (8, .int v8)] [] h) (v0 : Option Nat) (v1 : Int32) (v2 : Int32) (v3 : Int32) (v4 : Int32) (v5 : Int32) (v6 : Int32) (v7 : Int32) (v8 : Int32) (h : gk_H) : gk_P gw_I (d + 3) y_M_match b_M_match 11 (some .int) [] (f_M_match_b157 b27 v0 v1 v2 v3 v4 v5 v6 v7 v8 h) 157 [(0, va_rf v0), (1, .int v1), (2, .int v2), (3, .int v3), (4, .int v4), (5, .int v5), (6, .int v6), (7, .int v7), (8, .int v8)] [] h := by
  unfold f_M_match_b157
  refine gk_iincN (pc := 157) 8 (1 : Int32) (L' := fun x1 => [(8, .int x1), (0, va_rf v0), (1, .int v1), (2, .int v2), (3, .int v3), (4, .int v4), (5, .int v5), (6, .int v6), (7, .int v7)]) d_M_match_157 rfl rfl (Nat.le_of_ble_eq_true rfl) (fun _ => rfl) fun x1 => ?_
  refine gk_goto (pc := 160) 27 d_M_match_160 rfl ?_
  refine gk_weak [1, 2, 3, 4, 5, 6, 7, 8, 0] (L' := [(0, va_rf v0), (1, .int v1), (2, .int v2), (3, .int v3), (4, .int v4), (5, .int v5), (6, .int v6), (7, .int v7), (8, .int x1)]) rfl ?_
  exact q27 v0 v1 v2 v3 v4 v5 v6 v7 x1 h
theorem p_M_match_b120 (d : Nat) (b27 : Option Nat → Int32 → Int32 → Int32 → Int32 → Int32 → Int32 → Int32 → Int32 → gk_H → Option (Int32 × gk_H)) (q27 : ∀ (v0 : Option Nat) (v1 : Int32) (v2 : Int32) (v3 : Int32) (v4 : Int32) (v5 : Int32) (v6 : Int32) (v7 : Int32) (v8 : Int32) (h : gk_H), gk_P gw_I (d + 3) y_M_match b_M_match 11 (some .int) [] (b27 v0 v1 v2 v3 v4 v5 v6 v7 v8 h) 27 [(0, va_rf v0), (1, .int v1), (2, .int v2), (3, .int v3), (4, .int v4), (5, .int v5), (6, .int v6), (7, .int v7), (8, .int v8)] [] h) (v0 : Option Nat) (v1 : Int32) (v2 : Int32) (v3 : Int32) (v4 : Int32) (v5 : Int32) (v6 : Int32) (v7 : Int32) (v8 : Int32) (s0 : Int32) (h : gk_H) : gk_P gw_I (d + 3) y_M_match b_M_match 11 (some .int) [] (f_M_match_b120 b27 v0 v1 v2 v3 v4 v5 v6 v7 v8 s0 h) 120 [(0, va_rf v0), (1, .int v1), (2, .int v2), (3, .int v3), (4, .int v4), (5, .int v5), (6, .int v6), (7, .int v7), (8, .int v8)] [.int s0] h := by
  unfold f_M_match_b120
  refine gk_istore (pc := 120) (L' := [(10, .int s0), (0, va_rf v0), (1, .int v1), (2, .int v2), (3, .int v3), (4, .int v4), (5, .int v5), (6, .int v6), (7, .int v7), (8, .int v8)]) d_M_match_120 (Nat.le_of_ble_eq_true rfl) rfl ?_
  refine gk_iload (pc := 122) 0 d_M_match_122 rfl ?_
  refine gk_if_eq (pc := 124) 130 d_M_match_124 rfl (fun _ => ?_) (fun _ => ?_)
  · refine gk_goto (pc := 130) 157 d_M_match_130 rfl ?_
    refine gk_weak [1, 2, 3, 4, 5, 6, 7, 8, 9] (L' := [(0, va_rf v0), (1, .int v1), (2, .int v2), (3, .int v3), (4, .int v4), (5, .int v5), (6, .int v6), (7, .int v7), (8, .int v8)]) rfl ?_
    exact p_M_match_b157 d b27 q27 v0 v1 v2 v3 v4 v5 v6 v7 v8 h
  · refine gk_iload (pc := 127) 9 d_M_match_127 rfl ?_
    exact gk_iret (pc := 129) rfl d_M_match_129 rfl
theorem p_M_match_b27 (d : Nat)  : ∀ (fu : Nat) (v0 : Option Nat) (v1 : Int32) (v2 : Int32) (v3 : Int32) (v4 : Int32) (v5 : Int32) (v6 : Int32) (v7 : Int32) (v8 : Int32) (h : gk_H), gk_P gw_I (d + 3) y_M_match b_M_match 11 (some .int) [] (f_M_match_b27  fu v0 v1 v2 v3 v4 v5 v6 v7 v8 h) 27 [(0, va_rf v0), (1, .int v1), (2, .int v2), (3, .int v3), (4, .int v4), (5, .int v5), (6, .int v6), (7, .int v7), (8, .int v8)] [] h := by
  intro fu
  induction fu with
  | zero => intros; exact gk_none
  | succ fu q27 =>
    intro v0 v1 v2 v3 v4 v5 v6 v7 v8 h
    rw [f_M_match_b27]
    refine gk_iload (pc := 27) 8 d_M_match_27 rfl ?_
    refine gk_iload_n (pc := 29) 3 d_M_match_29 rfl ?_
    refine gk_icmp_ge (pc := 30) 163 d_M_match_30 rfl (fun _ => ?_) (fun _ => ?_)
    · refine gk_iload (pc := 163) 7 d_M_match_163 rfl ?_
      exact gk_iret (pc := 165) rfl d_M_match_165 rfl
    · refine gk_iload_n (pc := 33) 2 d_M_match_33 rfl ?_
      refine gk_iload (pc := 34) 8 d_M_match_34 rfl ?_
      refine gk_iload (pc := 36) 4 d_M_match_36 rfl ?_
      refine gk_imul (pc := 38) d_M_match_38 ?_
      refine gk_iadd (pc := 39) d_M_match_39 ?_
      refine gk_topI (pc := 40) fun x1 => ?_
      refine gk_istore (pc := 40) (L' := [(9, .int x1), (0, va_rf v0), (1, .int v1), (2, .int v2), (3, .int v3), (4, .int v4), (5, .int v5), (6, .int v6), (7, .int v7), (8, .int v8)]) d_M_match_40 (Nat.le_of_ble_eq_true rfl) rfl ?_
      refine gk_aload_n (pc := 42) 1 d_M_match_42 rfl ?_
      refine gk_getR (pc := 43) 7 7 d_M_match_43 rfl (Nat.le_of_ble_eq_true rfl) tw_1652 fun x2 => ?_
      refine gk_iload (pc := 46) 0 d_M_match_46 rfl ?_
      refine gk_iald (pc := 48) d_M_match_48 fun x3 => ?_
      refine gk_iload (pc := 49) 7 d_M_match_49 rfl ?_
      refine gk_icmp_ne (pc := 51) 157 d_M_match_51 rfl (fun _ => ?_) (fun _ => ?_)
      · refine gk_iload (pc := 54) 6 d_M_match_54 rfl ?_
        refine gk_if_ne (pc := 56) 133 d_M_match_56 rfl (fun _ => ?_) (fun _ => ?_)
        · refine gk_iload (pc := 59) 7 d_M_match_59 rfl ?_
          refine gk_iconst (pc := 61) (2 : Int32) d_M_match_61 rfl ?_
          refine gk_icmp_ne (pc := 62) 105 d_M_match_62 rfl (fun _ => ?_) (fun _ => ?_)
          · refine gk_aload_n (pc := 65) 1 d_M_match_65 rfl ?_
            refine gk_aload_n (pc := 66) 1 d_M_match_66 rfl ?_
            refine gk_getR (pc := 67) 7 10 d_M_match_67 rfl (Nat.le_of_ble_eq_true rfl) tw_1655 fun x4 => ?_
            refine gk_sipush (pc := 70) (256 : Int32) d_M_match_70 rfl ?_
            refine gk_iload (pc := 73) 0 d_M_match_73 rfl ?_
            refine gk_imul (pc := 75) d_M_match_75 ?_
            refine gk_aload_n (pc := 76) 1 d_M_match_76 rfl ?_
            refine gk_getR (pc := 77) 7 9 d_M_match_77 rfl (Nat.le_of_ble_eq_true rfl) tw_1654 fun x5 => ?_
            refine gk_iload (pc := 80) 0 d_M_match_80 rfl ?_
            refine gk_iald (pc := 82) d_M_match_82 fun x6 => ?_
            refine gk_aload_n (pc := 83) 1 d_M_match_83 rfl ?_
            refine gk_getR (pc := 84) 7 10 d_M_match_84 rfl (Nat.le_of_ble_eq_true rfl) tw_1655 fun x7 => ?_
            refine gk_sipush (pc := 87) (256 : Int32) d_M_match_87 rfl ?_
            refine gk_iload_n (pc := 90) 2 d_M_match_90 rfl ?_
            refine gk_imul (pc := 91) d_M_match_91 ?_
            refine gk_aload_n (pc := 92) 1 d_M_match_92 rfl ?_
            refine gk_getR (pc := 93) 7 9 d_M_match_93 rfl (Nat.le_of_ble_eq_true rfl) tw_1654 fun x8 => ?_
            refine gk_iload_n (pc := 96) 2 d_M_match_96 rfl ?_
            refine gk_iald (pc := 97) d_M_match_97 fun x9 => ?_
            refine gk_iconst (pc := 98) (0 : Int32) d_M_match_98 rfl ?_
            refine gk_callV (pc := 99) (d := (d + 2)) (w' := gv_I) (as := [va_rf x4, .int ((256 : Int32) * x1), .int x6, va_rf x7, .int ((256 : Int32) * v1), .int x9, .int (0 : Int32)]) (n := 7) 7 d_M_match_99 rfl rfl rfl rfl (Nat.le_of_ble_eq_true rfl) tw_1999 tw_2001 tw_56 tw_99 cw_M_isLike hy_M_isLike (Nat.le_of_ble_eq_true rfl) (p_M_isLike (d + 1) v0 x4 ((256 : Int32) * x1) x6 x7 ((256 : Int32) * v1) x9 (0 : Int32) h) fun x10 h1 => ?_
            refine gk_goto (pc := 102) 120 d_M_match_102 rfl ?_
            refine gk_weak [1, 2, 3, 4, 5, 6, 7, 8, 9] (L' := [(0, va_rf v0), (1, .int v1), (2, .int v2), (3, .int v3), (4, .int v4), (5, .int v5), (6, .int v6), (7, .int v7), (8, .int v8)]) rfl ?_
            exact p_M_match_b120 d (f_M_match_b27 fu) q27 v0 v1 v2 v3 v4 v5 v6 v7 v8 x10 h1
          · refine gk_aload_n (pc := 105) 1 d_M_match_105 rfl ?_
            refine gk_iload (pc := 106) 0 d_M_match_106 rfl ?_
            refine gk_iload_n (pc := 108) 2 d_M_match_108 rfl ?_
            refine gk_callV (pc := 109) (d := (d + 2)) (w' := gv_I) (as := [.int x1, .int v1]) (n := 2) 7 d_M_match_109 rfl rfl rfl rfl (Nat.le_of_ble_eq_true rfl) tw_1809 tw_1811 tw_22 tw_99 cw_M_compareCells hy_M_compareCells (Nat.le_of_ble_eq_true rfl) (p_M_compareCells d v0 x1 v1 h) fun x11 h2 => ?_
            refine gk_if_ne (pc := 112) 119 d_M_match_112 rfl (fun _ => ?_) (fun _ => ?_)
            · refine gk_iconst (pc := 115) (1 : Int32) d_M_match_115 rfl ?_
              refine gk_goto (pc := 116) 120 d_M_match_116 rfl ?_
              refine gk_weak [1, 2, 3, 4, 5, 6, 7, 8, 9] (L' := [(0, va_rf v0), (1, .int v1), (2, .int v2), (3, .int v3), (4, .int v4), (5, .int v5), (6, .int v6), (7, .int v7), (8, .int v8)]) rfl ?_
              exact p_M_match_b120 d (f_M_match_b27 fu) q27 v0 v1 v2 v3 v4 v5 v6 v7 v8 (1 : Int32) h2
            · refine gk_iconst (pc := 119) (0 : Int32) d_M_match_119 rfl ?_
              refine gk_weak [1, 2, 3, 4, 5, 6, 7, 8, 9] (L' := [(0, va_rf v0), (1, .int v1), (2, .int v2), (3, .int v3), (4, .int v4), (5, .int v5), (6, .int v6), (7, .int v7), (8, .int v8)]) rfl ?_
              exact p_M_match_b120 d (f_M_match_b27 fu) q27 v0 v1 v2 v3 v4 v5 v6 v7 v8 (0 : Int32) h2
        · refine gk_aload_n (pc := 133) 1 d_M_match_133 rfl ?_
          refine gk_iload (pc := 134) 0 d_M_match_134 rfl ?_
          refine gk_iload_n (pc := 136) 2 d_M_match_136 rfl ?_
          refine gk_callV (pc := 137) (d := (d + 2)) (w' := gv_I) (as := [.int x1, .int v1]) (n := 2) 7 d_M_match_137 rfl rfl rfl rfl (Nat.le_of_ble_eq_true rfl) tw_1809 tw_1811 tw_22 tw_99 cw_M_compareCells hy_M_compareCells (Nat.le_of_ble_eq_true rfl) (p_M_compareCells d v0 x1 v1 h) fun x12 h3 => ?_
          refine gk_iload (pc := 140) 6 d_M_match_140 rfl ?_
          refine gk_imul (pc := 142) d_M_match_142 ?_
          refine gk_topI (pc := 143) fun x13 => ?_
          refine gk_istore (pc := 143) (L' := [(10, .int x13), (9, .int x1), (0, va_rf v0), (1, .int v1), (2, .int v2), (3, .int v3), (4, .int v4), (5, .int v5), (6, .int v6), (7, .int v7), (8, .int v8)]) d_M_match_143 (Nat.le_of_ble_eq_true rfl) rfl ?_
          refine gk_iload (pc := 145) 0 d_M_match_145 rfl ?_
          refine gk_if_le (pc := 147) 153 d_M_match_147 rfl (fun _ => ?_) (fun _ => ?_)
          · refine gk_iload (pc := 153) 10 d_M_match_153 rfl ?_
            refine gk_istore (pc := 155) (L' := [(7, .int v8), (10, .int x13), (9, .int x1), (0, va_rf v0), (1, .int v1), (2, .int v2), (3, .int v3), (4, .int v4), (5, .int v5), (6, .int v6), (8, .int v8)]) d_M_match_155 (Nat.le_of_ble_eq_true rfl) rfl ?_
            refine gk_weak [3, 4, 5, 6, 7, 8, 9, 0, 10] (L' := [(0, va_rf v0), (1, .int v1), (2, .int v2), (3, .int v3), (4, .int v4), (5, .int v5), (6, .int v6), (7, .int v8), (8, .int v8)]) rfl ?_
            exact p_M_match_b157 d (f_M_match_b27 fu) q27 v0 v1 v2 v3 v4 v5 v6 v8 v8 h3
          · refine gk_iload (pc := 150) 9 d_M_match_150 rfl ?_
            exact gk_iret (pc := 152) rfl d_M_match_152 rfl
      · refine gk_weak [1, 2, 3, 4, 5, 6, 7, 8, 9] (L' := [(0, va_rf v0), (1, .int v1), (2, .int v2), (3, .int v3), (4, .int v4), (5, .int v5), (6, .int v6), (7, .int v7), (8, .int v8)]) rfl ?_
        exact p_M_match_b157 d (f_M_match_b27 fu) q27 v0 v1 v2 v3 v4 v5 v6 v7 v8 h
theorem p_M_match_b19 (d : Nat)  (v0 : Option Nat) (v1 : Int32) (v2 : Int32) (v3 : Int32) (v4 : Int32) (v5 : Int32) (s0 : Int32) (h : gk_H) : gk_P gw_I (d + 3) y_M_match b_M_match 11 (some .int) [] (f_M_match_b19  v0 v1 v2 v3 v4 v5 s0 h) 19 [(0, va_rf v0), (1, .int v1), (2, .int v2), (3, .int v3), (4, .int v4), (5, .int v5)] [.int s0] h := by
  unfold f_M_match_b19
  refine gk_istore (pc := 19) (L' := [(6, .int s0), (0, va_rf v0), (1, .int v1), (2, .int v2), (3, .int v3), (4, .int v4), (5, .int v5)]) d_M_match_19 (Nat.le_of_ble_eq_true rfl) rfl ?_
  refine gk_iconst (pc := 21) (-1 : Int32) d_M_match_21 rfl ?_
  refine gk_istore (pc := 22) (L' := [(7, .int (-1 : Int32)), (6, .int s0), (0, va_rf v0), (1, .int v1), (2, .int v2), (3, .int v3), (4, .int v4), (5, .int v5)]) d_M_match_22 (Nat.le_of_ble_eq_true rfl) rfl ?_
  refine gk_iconst (pc := 24) (0 : Int32) d_M_match_24 rfl ?_
  refine gk_istore (pc := 25) (L' := [(8, .int (0 : Int32)), (7, .int (-1 : Int32)), (6, .int s0), (0, va_rf v0), (1, .int v1), (2, .int v2), (3, .int v3), (4, .int v4), (5, .int v5)]) d_M_match_25 (Nat.le_of_ble_eq_true rfl) rfl ?_
  refine gk_weak [3, 4, 5, 6, 7, 8, 2, 1, 0] (L' := [(0, va_rf v0), (1, .int v1), (2, .int v2), (3, .int v3), (4, .int v4), (5, .int v5), (6, .int s0), (7, .int (-1 : Int32)), (8, .int (0 : Int32))]) rfl ?_
  exact p_M_match_b27 d gk_F v0 v1 v2 v3 v4 v5 s0 (-1 : Int32) (0 : Int32) h
theorem w_M_match (d : Nat) (a0 : Option Nat) (a1 : Int32) (a2 : Int32) (a3 : Int32) (a4 : Int32) (a5 : Int32) (h : gk_H) : gk_P gw_I (d + 3) y_M_match b_M_match 11 (some .int) [] (f_M_match a0 a1 a2 a3 a4 a5 h) 0 [(0, va_rf a0), (1, .int a1), (2, .int a2), (3, .int a3), (4, .int a4), (5, .int a5)] [] h := by
  unfold f_M_match
  refine gk_aload_n (pc := 0) 0 d_M_match_0 rfl ?_
  refine gk_getR (pc := 1) 7 7 d_M_match_1 rfl (Nat.le_of_ble_eq_true rfl) tw_1652 fun x1 => ?_
  refine gk_iload_n (pc := 4) 1 d_M_match_4 rfl ?_
  refine gk_iald (pc := 5) d_M_match_5 fun x2 => ?_
  refine gk_if_ne (pc := 6) 13 d_M_match_6 rfl (fun _ => ?_) (fun _ => ?_)
  · refine gk_iconst (pc := 9) (1 : Int32) d_M_match_9 rfl ?_
    refine gk_goto (pc := 10) 19 d_M_match_10 rfl ?_
    exact p_M_match_b19 d a0 a1 a2 a3 a4 a5 (1 : Int32) h
  · refine gk_aload_n (pc := 13) 0 d_M_match_13 rfl ?_
    refine gk_getR (pc := 14) 7 7 d_M_match_14 rfl (Nat.le_of_ble_eq_true rfl) tw_1652 fun x3 => ?_
    refine gk_iload_n (pc := 17) 1 d_M_match_17 rfl ?_
    refine gk_iald (pc := 18) d_M_match_18 fun x4 => ?_
    exact p_M_match_b19 d a0 a1 a2 a3 a4 a5 x4 h
theorem p_M_match (d : Nat) (a0 : Option Nat) (a1 : Int32) (a2 : Int32) (a3 : Int32) (a4 : Int32) (a5 : Int32) (h : gk_H) : ∀ r h1, f_M_match a0 a1 a2 a3 a4 a5 h = some (r, h1) → gk_M (d + 3) y_M_match b_M_match 11 (some .int) [va_rf a0, .int a1, .int a2, .int a3, .int a4, .int a5] h (.inl (gv_I r)) h1 :=
  fun r h1 e => gk_M_of2 (by decide +kernel) (by simp [lv_args, gk_cat_rf, gk_catI, gk_catJ, gk_catD, gv_V, gv_I, gv_J, gv_D, gv_R]) (by simp [lg_sl, gk_cat_rf, gk_catI, gk_catJ, gk_catD, gv_V, gv_I, gv_J, gv_D, gv_R]) (w_M_match d a0 a1 a2 a3 a4 a5 h r h1 e)
theorem d_M_transpose_0 : decode b_M_transpose 0 = .ok (.iconst 0, 1) := by decide +kernel
theorem d_M_transpose_1 : decode b_M_transpose 1 = .ok (.istore_n 2, 1) := by decide +kernel
theorem d_M_transpose_2 : decode b_M_transpose 2 = .ok (.iload_n 2, 1) := by decide +kernel
theorem d_M_transpose_3 : decode b_M_transpose 3 = .ok (.aload_n 0, 1) := by decide +kernel
theorem d_M_transpose_4 : decode b_M_transpose 4 = .ok (.getfield 17, 3) := by decide +kernel
theorem d_M_transpose_7 : decode b_M_transpose 7 = .ok (.iload_n 1, 1) := by decide +kernel
theorem d_M_transpose_8 : decode b_M_transpose 8 = .ok (.iaload, 1) := by decide +kernel
theorem d_M_transpose_9 : decode b_M_transpose 9 = .ok (.if_icmp .ge 60, 3) := by decide +kernel
theorem d_M_transpose_12 : decode b_M_transpose 12 = .ok (.iconst 0, 1) := by decide +kernel
theorem d_M_transpose_13 : decode b_M_transpose 13 = .ok (.istore_n 3, 1) := by decide +kernel
theorem d_M_transpose_14 : decode b_M_transpose 14 = .ok (.iload_n 3, 1) := by decide +kernel
theorem d_M_transpose_15 : decode b_M_transpose 15 = .ok (.aload_n 0, 1) := by decide +kernel
theorem d_M_transpose_16 : decode b_M_transpose 16 = .ok (.getfield 20, 3) := by decide +kernel
theorem d_M_transpose_19 : decode b_M_transpose 19 = .ok (.iload_n 1, 1) := by decide +kernel
theorem d_M_transpose_20 : decode b_M_transpose 20 = .ok (.iaload, 1) := by decide +kernel
theorem d_M_transpose_21 : decode b_M_transpose 21 = .ok (.if_icmp .ge 42, 3) := by decide +kernel
theorem d_M_transpose_24 : decode b_M_transpose 24 = .ok (.aload_n 0, 1) := by decide +kernel
theorem d_M_transpose_25 : decode b_M_transpose 25 = .ok (.bipush 16, 2) := by decide +kernel
theorem d_M_transpose_27 : decode b_M_transpose 27 = .ok (.iload_n 1, 1) := by decide +kernel
theorem d_M_transpose_28 : decode b_M_transpose 28 = .ok (.imul, 1) := by decide +kernel
theorem d_M_transpose_29 : decode b_M_transpose 29 = .ok (.iload_n 2, 1) := by decide +kernel
theorem d_M_transpose_30 : decode b_M_transpose 30 = .ok (.aload_n 0, 1) := by decide +kernel
theorem d_M_transpose_31 : decode b_M_transpose 31 = .ok (.getfield 20, 3) := by decide +kernel
theorem d_M_transpose_34 : decode b_M_transpose 34 = .ok (.iload_n 1, 1) := by decide +kernel
theorem d_M_transpose_35 : decode b_M_transpose 35 = .ok (.iaload, 1) := by decide +kernel
theorem d_M_transpose_36 : decode b_M_transpose 36 = .ok (.imul, 1) := by decide +kernel
theorem d_M_transpose_37 : decode b_M_transpose 37 = .ok (.iadd, 1) := by decide +kernel
theorem d_M_transpose_38 : decode b_M_transpose 38 = .ok (.iload_n 3, 1) := by decide +kernel
theorem d_M_transpose_39 : decode b_M_transpose 39 = .ok (.iadd, 1) := by decide +kernel
theorem d_M_transpose_40 : decode b_M_transpose 40 = .ok (.sipush 256, 3) := by decide +kernel
theorem d_M_transpose_43 : decode b_M_transpose 43 = .ok (.iload_n 3, 1) := by decide +kernel
theorem d_M_transpose_44 : decode b_M_transpose 44 = .ok (.aload_n 0, 1) := by decide +kernel
theorem d_M_transpose_45 : decode b_M_transpose 45 = .ok (.getfield 17, 3) := by decide +kernel
theorem d_M_transpose_48 : decode b_M_transpose 48 = .ok (.iload_n 1, 1) := by decide +kernel
theorem d_M_transpose_49 : decode b_M_transpose 49 = .ok (.iaload, 1) := by decide +kernel
theorem d_M_transpose_50 : decode b_M_transpose 50 = .ok (.imul, 1) := by decide +kernel
theorem d_M_transpose_51 : decode b_M_transpose 51 = .ok (.iadd, 1) := by decide +kernel
theorem d_M_transpose_52 : decode b_M_transpose 52 = .ok (.iload_n 2, 1) := by decide +kernel
theorem d_M_transpose_53 : decode b_M_transpose 53 = .ok (.iadd, 1) := by decide +kernel
theorem d_M_transpose_54 : decode b_M_transpose 54 = .ok (.invokevirtual 65, 3) := by decide +kernel
theorem d_M_transpose_57 : decode b_M_transpose 57 = .ok (.iinc 3 1, 3) := by decide +kernel
theorem d_M_transpose_60 : decode b_M_transpose 60 = .ok (.goto (-46), 3) := by decide +kernel
theorem d_M_transpose_63 : decode b_M_transpose 63 = .ok (.iinc 2 1, 3) := by decide +kernel
theorem d_M_transpose_66 : decode b_M_transpose 66 = .ok (.goto (-64), 3) := by decide +kernel
theorem d_M_transpose_69 : decode b_M_transpose 69 = .ok (.aload_n 0, 1) := by decide +kernel
theorem d_M_transpose_70 : decode b_M_transpose 70 = .ok (.getfield 13, 3) := by decide +kernel
theorem d_M_transpose_73 : decode b_M_transpose 73 = .ok (.bipush 16, 2) := by decide +kernel
theorem d_M_transpose_75 : decode b_M_transpose 75 = .ok (.iconst 5, 1) := by decide +kernel
theorem d_M_transpose_76 : decode b_M_transpose 76 = .ok (.iastore, 1) := by decide +kernel
theorem d_M_transpose_77 : decode b_M_transpose 77 = .ok (.aload_n 0, 1) := by decide +kernel
theorem d_M_transpose_78 : decode b_M_transpose 78 = .ok (.getfield 17, 3) := by decide +kernel
theorem d_M_transpose_81 : decode b_M_transpose 81 = .ok (.bipush 16, 2) := by decide +kernel
theorem d_M_transpose_83 : decode b_M_transpose 83 = .ok (.aload_n 0, 1) := by decide +kernel
theorem d_M_transpose_84 : decode b_M_transpose 84 = .ok (.getfield 20, 3) := by decide +kernel
theorem d_M_transpose_87 : decode b_M_transpose 87 = .ok (.iload_n 1, 1) := by decide +kernel
theorem d_M_transpose_88 : decode b_M_transpose 88 = .ok (.iaload, 1) := by decide +kernel
theorem d_M_transpose_89 : decode b_M_transpose 89 = .ok (.iastore, 1) := by decide +kernel
theorem d_M_transpose_90 : decode b_M_transpose 90 = .ok (.aload_n 0, 1) := by decide +kernel
theorem d_M_transpose_91 : decode b_M_transpose 91 = .ok (.getfield 20, 3) := by decide +kernel
theorem d_M_transpose_94 : decode b_M_transpose 94 = .ok (.bipush 16, 2) := by decide +kernel
theorem d_M_transpose_96 : decode b_M_transpose 96 = .ok (.aload_n 0, 1) := by decide +kernel
theorem d_M_transpose_97 : decode b_M_transpose 97 = .ok (.getfield 17, 3) := by decide +kernel
theorem d_M_transpose_100 : decode b_M_transpose 100 = .ok (.iload_n 1, 1) := by decide +kernel
theorem d_M_transpose_101 : decode b_M_transpose 101 = .ok (.iaload, 1) := by decide +kernel
theorem d_M_transpose_102 : decode b_M_transpose 102 = .ok (.iastore, 1) := by decide +kernel
theorem d_M_transpose_103 : decode b_M_transpose 103 = .ok (.return_, 1) := by decide +kernel
theorem p_M_transpose_b14 (d : Nat) (b2 : Option Nat → Int32 → Int32 → gk_H → Option (Unit × gk_H)) (q2 : ∀ (v0 : Option Nat) (v1 : Int32) (v2 : Int32) (h : gk_H), gk_P gw_V (d + 1) y_M_transpose b_M_transpose 4 none [] (b2 v0 v1 v2 h) 2 [(0, va_rf v0), (1, .int v1), (2, .int v2)] [] h) : ∀ (fu : Nat) (v0 : Option Nat) (v1 : Int32) (v2 : Int32) (v3 : Int32) (h : gk_H), gk_P gw_V (d + 1) y_M_transpose b_M_transpose 4 none [] (f_M_transpose_b14 b2 fu v0 v1 v2 v3 h) 14 [(0, va_rf v0), (1, .int v1), (2, .int v2), (3, .int v3)] [] h := by
  intro fu
  induction fu with
  | zero => intros; exact gk_none
  | succ fu q14 =>
    intro v0 v1 v2 v3 h
    rw [f_M_transpose_b14]
    refine gk_iload_n (pc := 14) 3 d_M_transpose_14 rfl ?_
    refine gk_aload_n (pc := 15) 0 d_M_transpose_15 rfl ?_
    refine gk_getR (pc := 16) 7 6 d_M_transpose_16 rfl (Nat.le_of_ble_eq_true rfl) tw_1651 fun x1 => ?_
    refine gk_iload_n (pc := 19) 1 d_M_transpose_19 rfl ?_
    refine gk_iald (pc := 20) d_M_transpose_20 fun x2 => ?_
    refine gk_icmp_ge (pc := 21) 63 d_M_transpose_21 rfl (fun _ => ?_) (fun _ => ?_)
    · refine gk_iincN (pc := 63) 2 (1 : Int32) (L' := fun x3 => [(2, .int x3), (0, va_rf v0), (1, .int v1), (3, .int v3)]) d_M_transpose_63 rfl rfl (Nat.le_of_ble_eq_true rfl) (fun _ => rfl) fun x3 => ?_
      refine gk_goto (pc := 66) 2 d_M_transpose_66 rfl ?_
      refine gk_weak [1, 2, 0] (L' := [(0, va_rf v0), (1, .int v1), (2, .int x3)]) rfl ?_
      exact q2 v0 v1 x3 h
    · refine gk_aload_n (pc := 24) 0 d_M_transpose_24 rfl ?_
      refine gk_bipush (pc := 25) (16 : Int32) d_M_transpose_25 rfl ?_
      refine gk_iload_n (pc := 27) 1 d_M_transpose_27 rfl ?_
      refine gk_imul (pc := 28) d_M_transpose_28 ?_
      refine gk_iload_n (pc := 29) 2 d_M_transpose_29 rfl ?_
      refine gk_aload_n (pc := 30) 0 d_M_transpose_30 rfl ?_
      refine gk_getR (pc := 31) 7 6 d_M_transpose_31 rfl (Nat.le_of_ble_eq_true rfl) tw_1651 fun x4 => ?_
      refine gk_iload_n (pc := 34) 1 d_M_transpose_34 rfl ?_
      refine gk_iald (pc := 35) d_M_transpose_35 fun x5 => ?_
      refine gk_imul (pc := 36) d_M_transpose_36 ?_
      refine gk_iadd (pc := 37) d_M_transpose_37 ?_
      refine gk_iload_n (pc := 38) 3 d_M_transpose_38 rfl ?_
      refine gk_iadd (pc := 39) d_M_transpose_39 ?_
      refine gk_sipush (pc := 40) (256 : Int32) d_M_transpose_40 rfl ?_
      refine gk_iload_n (pc := 43) 3 d_M_transpose_43 rfl ?_
      refine gk_aload_n (pc := 44) 0 d_M_transpose_44 rfl ?_
      refine gk_getR (pc := 45) 7 5 d_M_transpose_45 rfl (Nat.le_of_ble_eq_true rfl) tw_1650 fun x6 => ?_
      refine gk_iload_n (pc := 48) 1 d_M_transpose_48 rfl ?_
      refine gk_iald (pc := 49) d_M_transpose_49 fun x7 => ?_
      refine gk_imul (pc := 50) d_M_transpose_50 ?_
      refine gk_iadd (pc := 51) d_M_transpose_51 ?_
      refine gk_iload_n (pc := 52) 2 d_M_transpose_52 rfl ?_
      refine gk_iadd (pc := 53) d_M_transpose_53 ?_
      refine gk_callV (pc := 54) (d := d) (w' := gv_V) (as := [.int ((((16 : Int32) * v1) + (v2 * x5)) + v3), .int (((256 : Int32) + (v3 * x7)) + v2)]) (n := 2) 7 d_M_transpose_54 rfl rfl rfl rfl (Nat.le_of_ble_eq_true rfl) tw_1753 tw_1755 tw_16 tw_99 cw_M_copyCell hy_M_copyCell (Nat.le_of_ble_eq_true rfl) (p_M_copyCell d v0 ((((16 : Int32) * v1) + (v2 * x5)) + v3) (((256 : Int32) + (v3 * x7)) + v2) h) fun _ h1 => ?_
      refine gk_iincN (pc := 57) 3 (1 : Int32) (L' := fun x8 => [(3, .int x8), (0, va_rf v0), (1, .int v1), (2, .int v2)]) d_M_transpose_57 rfl rfl (Nat.le_of_ble_eq_true rfl) (fun _ => rfl) fun x8 => ?_
      refine gk_goto (pc := 60) 14 d_M_transpose_60 rfl ?_
      refine gk_weak [1, 2, 3, 0] (L' := [(0, va_rf v0), (1, .int v1), (2, .int v2), (3, .int x8)]) rfl ?_
      exact q14 v0 v1 v2 x8 h1
theorem p_M_transpose_b2 (d : Nat)  : ∀ (fu : Nat) (v0 : Option Nat) (v1 : Int32) (v2 : Int32) (h : gk_H), gk_P gw_V (d + 1) y_M_transpose b_M_transpose 4 none [] (f_M_transpose_b2  fu v0 v1 v2 h) 2 [(0, va_rf v0), (1, .int v1), (2, .int v2)] [] h := by
  intro fu
  induction fu with
  | zero => intros; exact gk_none
  | succ fu q2 =>
    intro v0 v1 v2 h
    rw [f_M_transpose_b2]
    refine gk_iload_n (pc := 2) 2 d_M_transpose_2 rfl ?_
    refine gk_aload_n (pc := 3) 0 d_M_transpose_3 rfl ?_
    refine gk_getR (pc := 4) 7 5 d_M_transpose_4 rfl (Nat.le_of_ble_eq_true rfl) tw_1650 fun x1 => ?_
    refine gk_iload_n (pc := 7) 1 d_M_transpose_7 rfl ?_
    refine gk_iald (pc := 8) d_M_transpose_8 fun x2 => ?_
    refine gk_icmp_ge (pc := 9) 69 d_M_transpose_9 rfl (fun _ => ?_) (fun _ => ?_)
    · refine gk_aload_n (pc := 69) 0 d_M_transpose_69 rfl ?_
      refine gk_getR (pc := 70) 7 4 d_M_transpose_70 rfl (Nat.le_of_ble_eq_true rfl) tw_1649 fun x3 => ?_
      refine gk_bipush (pc := 73) (16 : Int32) d_M_transpose_73 rfl ?_
      refine gk_iconst (pc := 75) (5 : Int32) d_M_transpose_75 rfl ?_
      refine gk_iast (pc := 76) d_M_transpose_76 fun h1 => ?_
      refine gk_aload_n (pc := 77) 0 d_M_transpose_77 rfl ?_
      refine gk_getR (pc := 78) 7 5 d_M_transpose_78 rfl (Nat.le_of_ble_eq_true rfl) tw_1650 fun x4 => ?_
      refine gk_bipush (pc := 81) (16 : Int32) d_M_transpose_81 rfl ?_
      refine gk_aload_n (pc := 83) 0 d_M_transpose_83 rfl ?_
      refine gk_getR (pc := 84) 7 6 d_M_transpose_84 rfl (Nat.le_of_ble_eq_true rfl) tw_1651 fun x5 => ?_
      refine gk_iload_n (pc := 87) 1 d_M_transpose_87 rfl ?_
      refine gk_iald (pc := 88) d_M_transpose_88 fun x6 => ?_
      refine gk_iast (pc := 89) d_M_transpose_89 fun h2 => ?_
      refine gk_aload_n (pc := 90) 0 d_M_transpose_90 rfl ?_
      refine gk_getR (pc := 91) 7 6 d_M_transpose_91 rfl (Nat.le_of_ble_eq_true rfl) tw_1651 fun x7 => ?_
      refine gk_bipush (pc := 94) (16 : Int32) d_M_transpose_94 rfl ?_
      refine gk_aload_n (pc := 96) 0 d_M_transpose_96 rfl ?_
      refine gk_getR (pc := 97) 7 5 d_M_transpose_97 rfl (Nat.le_of_ble_eq_true rfl) tw_1650 fun x8 => ?_
      refine gk_iload_n (pc := 100) 1 d_M_transpose_100 rfl ?_
      refine gk_iald (pc := 101) d_M_transpose_101 fun x9 => ?_
      refine gk_iast (pc := 102) d_M_transpose_102 fun h3 => ?_
      exact gk_vret (pc := 103) rfl d_M_transpose_103 rfl
    · refine gk_iconst (pc := 12) (0 : Int32) d_M_transpose_12 rfl ?_
      refine gk_istore_n (pc := 13) (L' := [(3, .int (0 : Int32)), (0, va_rf v0), (1, .int v1), (2, .int v2)]) d_M_transpose_13 (Nat.le_of_ble_eq_true rfl) rfl ?_
      refine gk_weak [1, 2, 3, 0] (L' := [(0, va_rf v0), (1, .int v1), (2, .int v2), (3, .int (0 : Int32))]) rfl ?_
      exact p_M_transpose_b14 d (f_M_transpose_b2 fu) q2 gk_F v0 v1 v2 (0 : Int32) h
theorem w_M_transpose (d : Nat) (a0 : Option Nat) (a1 : Int32) (h : gk_H) : gk_P gw_V (d + 1) y_M_transpose b_M_transpose 4 none [] (f_M_transpose a0 a1 h) 0 [(0, va_rf a0), (1, .int a1)] [] h := by
  unfold f_M_transpose
  refine gk_iconst (pc := 0) (0 : Int32) d_M_transpose_0 rfl ?_
  refine gk_istore_n (pc := 1) (L' := [(2, .int (0 : Int32)), (0, va_rf a0), (1, .int a1)]) d_M_transpose_1 (Nat.le_of_ble_eq_true rfl) rfl ?_
  refine gk_weak [1, 2, 0] (L' := [(0, va_rf a0), (1, .int a1), (2, .int (0 : Int32))]) rfl ?_
  exact p_M_transpose_b2 d gk_F a0 a1 (0 : Int32) h
theorem p_M_transpose (d : Nat) (a0 : Option Nat) (a1 : Int32) (h : gk_H) : ∀ r h1, f_M_transpose a0 a1 h = some (r, h1) → gk_M (d + 1) y_M_transpose b_M_transpose 4 none [va_rf a0, .int a1] h (.inl (gv_V r)) h1 :=
  fun r h1 e => gk_M_of2 (by decide +kernel) (by simp [lv_args, gk_cat_rf, gk_catI, gk_catJ, gk_catD, gv_V, gv_I, gv_J, gv_D, gv_R]) (by simp [lg_sl, gk_cat_rf, gk_catI, gk_catJ, gk_catD, gv_V, gv_I, gv_J, gv_D, gv_R]) (w_M_transpose d a0 a1 h r h1 e)
theorem d_M_lookup_0 : decode b_M_lookup 0 = .ok (.aload_n 0, 1) := by decide +kernel
theorem d_M_lookup_1 : decode b_M_lookup 1 = .ok (.iload_n 2, 1) := by decide +kernel
theorem d_M_lookup_2 : decode b_M_lookup 2 = .ok (.invokevirtual 183, 3) := by decide +kernel
theorem d_M_lookup_5 : decode b_M_lookup 5 = .ok (.istore 4, 2) := by decide +kernel
theorem d_M_lookup_7 : decode b_M_lookup 7 = .ok (.aload_n 0, 1) := by decide +kernel
theorem d_M_lookup_8 : decode b_M_lookup 8 = .ok (.iload_n 2, 1) := by decide +kernel
theorem d_M_lookup_9 : decode b_M_lookup 9 = .ok (.iconst 2, 1) := by decide +kernel
theorem d_M_lookup_10 : decode b_M_lookup 10 = .ok (.iadd, 1) := by decide +kernel
theorem d_M_lookup_11 : decode b_M_lookup 11 = .ok (.invokevirtual 296, 3) := by decide +kernel
theorem d_M_lookup_14 : decode b_M_lookup 14 = .ok (.lstore 5, 2) := by decide +kernel
theorem d_M_lookup_16 : decode b_M_lookup 16 = .ok (.iload_n 3, 1) := by decide +kernel
theorem d_M_lookup_17 : decode b_M_lookup 17 = .ok (.iconst 4, 1) := by decide +kernel
theorem d_M_lookup_18 : decode b_M_lookup 18 = .ok (.if_icmp .lt 13, 3) := by decide +kernel
theorem d_M_lookup_21 : decode b_M_lookup 21 = .ok (.aload_n 0, 1) := by decide +kernel
theorem d_M_lookup_22 : decode b_M_lookup 22 = .ok (.iload_n 2, 1) := by decide +kernel
theorem d_M_lookup_23 : decode b_M_lookup 23 = .ok (.iconst 3, 1) := by decide +kernel
theorem d_M_lookup_24 : decode b_M_lookup 24 = .ok (.iadd, 1) := by decide +kernel
theorem d_M_lookup_25 : decode b_M_lookup 25 = .ok (.invokevirtual 366, 3) := by decide +kernel
theorem d_M_lookup_28 : decode b_M_lookup 28 = .ok (.ifCond .eq 7, 3) := by decide +kernel
theorem d_M_lookup_31 : decode b_M_lookup 31 = .ok (.iconst 1, 1) := by decide +kernel
theorem d_M_lookup_32 : decode b_M_lookup 32 = .ok (.goto 4, 3) := by decide +kernel
theorem d_M_lookup_35 : decode b_M_lookup 35 = .ok (.iconst 0, 1) := by decide +kernel
theorem d_M_lookup_36 : decode b_M_lookup 36 = .ok (.istore 7, 2) := by decide +kernel
theorem d_M_lookup_38 : decode b_M_lookup 38 = .ok (.aload_n 0, 1) := by decide +kernel
theorem d_M_lookup_39 : decode b_M_lookup 39 = .ok (.getfield 62, 3) := by decide +kernel
theorem d_M_lookup_42 : decode b_M_lookup 42 = .ok (.ifCond .le 4, 3) := by decide +kernel
theorem d_M_lookup_45 : decode b_M_lookup 45 = .ok (.return_, 1) := by decide +kernel
theorem d_M_lookup_46 : decode b_M_lookup 46 = .ok (.iload_n 1, 1) := by decide +kernel
theorem d_M_lookup_47 : decode b_M_lookup 47 = .ok (.ifCond .eq 14, 3) := by decide +kernel
theorem d_M_lookup_50 : decode b_M_lookup 50 = .ok (.aload_n 0, 1) := by decide +kernel
theorem d_M_lookup_51 : decode b_M_lookup 51 = .ok (.getfield 17, 3) := by decide +kernel
theorem d_M_lookup_54 : decode b_M_lookup 54 = .ok (.iload_n 2, 1) := by decide +kernel
theorem d_M_lookup_55 : decode b_M_lookup 55 = .ok (.iconst 1, 1) := by decide +kernel
theorem d_M_lookup_56 : decode b_M_lookup 56 = .ok (.iadd, 1) := by decide +kernel
theorem d_M_lookup_57 : decode b_M_lookup 57 = .ok (.iaload, 1) := by decide +kernel
theorem d_M_lookup_58 : decode b_M_lookup 58 = .ok (.goto 11, 3) := by decide +kernel
theorem d_M_lookup_61 : decode b_M_lookup 61 = .ok (.aload_n 0, 1) := by decide +kernel
theorem d_M_lookup_62 : decode b_M_lookup 62 = .ok (.getfield 20, 3) := by decide +kernel
theorem d_M_lookup_65 : decode b_M_lookup 65 = .ok (.iload_n 2, 1) := by decide +kernel
theorem d_M_lookup_66 : decode b_M_lookup 66 = .ok (.iconst 1, 1) := by decide +kernel
theorem d_M_lookup_67 : decode b_M_lookup 67 = .ok (.iadd, 1) := by decide +kernel
theorem d_M_lookup_68 : decode b_M_lookup 68 = .ok (.iaload, 1) := by decide +kernel
theorem d_M_lookup_69 : decode b_M_lookup 69 = .ok (.istore 8, 2) := by decide +kernel
theorem d_M_lookup_71 : decode b_M_lookup 71 = .ok (.iload_n 1, 1) := by decide +kernel
theorem d_M_lookup_72 : decode b_M_lookup 72 = .ok (.ifCond .eq 14, 3) := by decide +kernel
theorem d_M_lookup_75 : decode b_M_lookup 75 = .ok (.aload_n 0, 1) := by decide +kernel
theorem d_M_lookup_76 : decode b_M_lookup 76 = .ok (.getfield 20, 3) := by decide +kernel
theorem d_M_lookup_79 : decode b_M_lookup 79 = .ok (.iload_n 2, 1) := by decide +kernel
theorem d_M_lookup_80 : decode b_M_lookup 80 = .ok (.iconst 1, 1) := by decide +kernel
theorem d_M_lookup_81 : decode b_M_lookup 81 = .ok (.iadd, 1) := by decide +kernel
theorem d_M_lookup_82 : decode b_M_lookup 82 = .ok (.iaload, 1) := by decide +kernel
theorem d_M_lookup_83 : decode b_M_lookup 83 = .ok (.goto 11, 3) := by decide +kernel
theorem d_M_lookup_86 : decode b_M_lookup 86 = .ok (.aload_n 0, 1) := by decide +kernel
theorem d_M_lookup_87 : decode b_M_lookup 87 = .ok (.getfield 17, 3) := by decide +kernel
theorem d_M_lookup_90 : decode b_M_lookup 90 = .ok (.iload_n 2, 1) := by decide +kernel
theorem d_M_lookup_91 : decode b_M_lookup 91 = .ok (.iconst 1, 1) := by decide +kernel
theorem d_M_lookup_92 : decode b_M_lookup 92 = .ok (.iadd, 1) := by decide +kernel
theorem d_M_lookup_93 : decode b_M_lookup 93 = .ok (.iaload, 1) := by decide +kernel
theorem d_M_lookup_94 : decode b_M_lookup 94 = .ok (.istore 9, 2) := by decide +kernel
theorem d_M_lookup_96 : decode b_M_lookup 96 = .ok (.lload 5, 2) := by decide +kernel
theorem d_M_lookup_98 : decode b_M_lookup 98 = .ok (.lconst 1, 1) := by decide +kernel
theorem d_M_lookup_99 : decode b_M_lookup 99 = .ok (.lcmp, 1) := by decide +kernel
theorem d_M_lookup_100 : decode b_M_lookup 100 = .ok (.ifCond .lt 12, 3) := by decide +kernel
theorem d_M_lookup_103 : decode b_M_lookup 103 = .ok (.lload 5, 2) := by decide +kernel
theorem d_M_lookup_105 : decode b_M_lookup 105 = .ok (.iload 9, 2) := by decide +kernel
theorem d_M_lookup_107 : decode b_M_lookup 107 = .ok (.i2l, 1) := by decide +kernel
theorem d_M_lookup_108 : decode b_M_lookup 108 = .ok (.lcmp, 1) := by decide +kernel
theorem d_M_lookup_109 : decode b_M_lookup 109 = .ok (.ifCond .le 20, 3) := by decide +kernel
theorem d_M_lookup_112 : decode b_M_lookup 112 = .ok (.aload_n 0, 1) := by decide +kernel
theorem d_M_lookup_113 : decode b_M_lookup 113 = .ok (.lload 5, 2) := by decide +kernel
theorem d_M_lookup_115 : decode b_M_lookup 115 = .ok (.lconst 1, 1) := by decide +kernel
theorem d_M_lookup_116 : decode b_M_lookup 116 = .ok (.lcmp, 1) := by decide +kernel
theorem d_M_lookup_117 : decode b_M_lookup 117 = .ok (.ifCond .ge 7, 3) := by decide +kernel
theorem d_M_lookup_120 : decode b_M_lookup 120 = .ok (.iconst 3, 1) := by decide +kernel
theorem d_M_lookup_121 : decode b_M_lookup 121 = .ok (.goto 4, 3) := by decide +kernel
theorem d_M_lookup_124 : decode b_M_lookup 124 = .ok (.iconst 4, 1) := by decide +kernel
theorem d_M_lookup_125 : decode b_M_lookup 125 = .ok (.invokevirtual 58, 3) := by decide +kernel
theorem d_M_lookup_128 : decode b_M_lookup 128 = .ok (.return_, 1) := by decide +kernel
theorem d_M_lookup_129 : decode b_M_lookup 129 = .ok (.aload_n 0, 1) := by decide +kernel
theorem d_M_lookup_130 : decode b_M_lookup 130 = .ok (.getfield 20, 3) := by decide +kernel
theorem d_M_lookup_133 : decode b_M_lookup 133 = .ok (.iload_n 2, 1) := by decide +kernel
theorem d_M_lookup_134 : decode b_M_lookup 134 = .ok (.iconst 1, 1) := by decide +kernel
theorem d_M_lookup_135 : decode b_M_lookup 135 = .ok (.iadd, 1) := by decide +kernel
theorem d_M_lookup_136 : decode b_M_lookup 136 = .ok (.iaload, 1) := by decide +kernel
theorem d_M_lookup_137 : decode b_M_lookup 137 = .ok (.istore 10, 2) := by decide +kernel
theorem d_M_lookup_139 : decode b_M_lookup 139 = .ok (.aload_n 0, 1) := by decide +kernel
theorem d_M_lookup_140 : decode b_M_lookup 140 = .ok (.iload 4, 2) := by decide +kernel
theorem d_M_lookup_142 : decode b_M_lookup 142 = .ok (.bipush 16, 2) := by decide +kernel
theorem d_M_lookup_144 : decode b_M_lookup 144 = .ok (.iload_n 2, 1) := by decide +kernel
theorem d_M_lookup_145 : decode b_M_lookup 145 = .ok (.iconst 1, 1) := by decide +kernel
theorem d_M_lookup_146 : decode b_M_lookup 146 = .ok (.iadd, 1) := by decide +kernel
theorem d_M_lookup_147 : decode b_M_lookup 147 = .ok (.imul, 1) := by decide +kernel
theorem d_M_lookup_148 : decode b_M_lookup 148 = .ok (.iload 8, 2) := by decide +kernel
theorem d_M_lookup_150 : decode b_M_lookup 150 = .ok (.iload_n 1, 1) := by decide +kernel
theorem d_M_lookup_151 : decode b_M_lookup 151 = .ok (.ifCond .eq 8, 3) := by decide +kernel
theorem d_M_lookup_154 : decode b_M_lookup 154 = .ok (.iload 10, 2) := by decide +kernel
theorem d_M_lookup_156 : decode b_M_lookup 156 = .ok (.goto 4, 3) := by decide +kernel
theorem d_M_lookup_159 : decode b_M_lookup 159 = .ok (.iconst 1, 1) := by decide +kernel
theorem d_M_lookup_160 : decode b_M_lookup 160 = .ok (.iload 7, 2) := by decide +kernel
theorem d_M_lookup_162 : decode b_M_lookup 162 = .ok (.ifCond .eq 7, 3) := by decide +kernel
theorem d_M_lookup_165 : decode b_M_lookup 165 = .ok (.iconst 1, 1) := by decide +kernel
theorem d_M_lookup_166 : decode b_M_lookup 166 = .ok (.goto 4, 3) := by decide +kernel
theorem d_M_lookup_169 : decode b_M_lookup 169 = .ok (.iconst 0, 1) := by decide +kernel
theorem d_M_lookup_170 : decode b_M_lookup 170 = .ok (.invokevirtual 412, 3) := by decide +kernel
theorem d_M_lookup_173 : decode b_M_lookup 173 = .ok (.istore 11, 2) := by decide +kernel
theorem d_M_lookup_175 : decode b_M_lookup 175 = .ok (.iload 11, 2) := by decide +kernel
theorem d_M_lookup_177 : decode b_M_lookup 177 = .ok (.ifCond .ge 10, 3) := by decide +kernel
theorem d_M_lookup_180 : decode b_M_lookup 180 = .ok (.aload_n 0, 1) := by decide +kernel
theorem d_M_lookup_181 : decode b_M_lookup 181 = .ok (.bipush 7, 2) := by decide +kernel
theorem d_M_lookup_183 : decode b_M_lookup 183 = .ok (.invokevirtual 58, 3) := by decide +kernel
theorem d_M_lookup_186 : decode b_M_lookup 186 = .ok (.return_, 1) := by decide +kernel
theorem d_M_lookup_187 : decode b_M_lookup 187 = .ok (.aload_n 0, 1) := by decide +kernel
theorem d_M_lookup_188 : decode b_M_lookup 188 = .ok (.bipush 16, 2) := by decide +kernel
theorem d_M_lookup_190 : decode b_M_lookup 190 = .ok (.iload_n 2, 1) := by decide +kernel
theorem d_M_lookup_191 : decode b_M_lookup 191 = .ok (.iconst 1, 1) := by decide +kernel
theorem d_M_lookup_192 : decode b_M_lookup 192 = .ok (.iadd, 1) := by decide +kernel
theorem d_M_lookup_193 : decode b_M_lookup 193 = .ok (.imul, 1) := by decide +kernel
theorem d_M_lookup_194 : decode b_M_lookup 194 = .ok (.iload_n 1, 1) := by decide +kernel
theorem d_M_lookup_195 : decode b_M_lookup 195 = .ok (.ifCond .eq 17, 3) := by decide +kernel
theorem d_M_lookup_198 : decode b_M_lookup 198 = .ok (.iload 11, 2) := by decide +kernel
theorem d_M_lookup_200 : decode b_M_lookup 200 = .ok (.iload 10, 2) := by decide +kernel
theorem d_M_lookup_202 : decode b_M_lookup 202 = .ok (.imul, 1) := by decide +kernel
theorem d_M_lookup_203 : decode b_M_lookup 203 = .ok (.lload 5, 2) := by decide +kernel
theorem d_M_lookup_205 : decode b_M_lookup 205 = .ok (.l2i, 1) := by decide +kernel
theorem d_M_lookup_206 : decode b_M_lookup 206 = .ok (.iadd, 1) := by decide +kernel
theorem d_M_lookup_207 : decode b_M_lookup 207 = .ok (.iconst 1, 1) := by decide +kernel
theorem d_M_lookup_208 : decode b_M_lookup 208 = .ok (.isub, 1) := by decide +kernel
theorem d_M_lookup_209 : decode b_M_lookup 209 = .ok (.goto 14, 3) := by decide +kernel
theorem d_M_lookup_212 : decode b_M_lookup 212 = .ok (.lload 5, 2) := by decide +kernel
theorem d_M_lookup_214 : decode b_M_lookup 214 = .ok (.l2i, 1) := by decide +kernel
theorem d_M_lookup_215 : decode b_M_lookup 215 = .ok (.iconst 1, 1) := by decide +kernel
theorem d_M_lookup_216 : decode b_M_lookup 216 = .ok (.isub, 1) := by decide +kernel
theorem d_M_lookup_217 : decode b_M_lookup 217 = .ok (.iload 10, 2) := by decide +kernel
theorem d_M_lookup_219 : decode b_M_lookup 219 = .ok (.imul, 1) := by decide +kernel
theorem d_M_lookup_220 : decode b_M_lookup 220 = .ok (.iload 11, 2) := by decide +kernel
theorem d_M_lookup_222 : decode b_M_lookup 222 = .ok (.iadd, 1) := by decide +kernel
theorem d_M_lookup_223 : decode b_M_lookup 223 = .ok (.iadd, 1) := by decide +kernel
theorem d_M_lookup_224 : decode b_M_lookup 224 = .ok (.invokevirtual 380, 3) := by decide +kernel
theorem d_M_lookup_227 : decode b_M_lookup 227 = .ok (.return_, 1) := by decide +kernel
theorem p_M_lookup_b125 (d : Nat)  (s0 : Option Nat) (s1 : Int32) (h : gk_H) : gk_P gw_V (d + 5) y_M_lookup b_M_lookup 12 none [] (f_M_lookup_b125  s0 s1 h) 125 [] [.int s1, va_rf s0] h := by
  unfold f_M_lookup_b125
  refine gk_callV (pc := 125) (d := (d + 4)) (w' := gv_V) (as := [.int s1]) (n := 1) 7 d_M_lookup_125 rfl rfl rfl rfl (Nat.le_of_ble_eq_true rfl) tw_1805 tw_1807 tw_21 tw_99 cw_M_fail hy_M_fail (Nat.le_of_ble_eq_true rfl) (p_M_fail (d + 4) s0 s1 h) fun _ h1 => ?_
  exact gk_vret (pc := 128) rfl d_M_lookup_128 rfl
theorem p_M_lookup_b112 (d : Nat)  (v0 : Option Nat) (v5 : Int64) (h : gk_H) : gk_P gw_V (d + 5) y_M_lookup b_M_lookup 12 none [] (f_M_lookup_b112  v0 v5 h) 112 [(0, va_rf v0), (5, .long v5)] [] h := by
  unfold f_M_lookup_b112
  refine gk_aload_n (pc := 112) 0 d_M_lookup_112 rfl ?_
  refine gk_lload (pc := 113) 1 d_M_lookup_113 rfl ?_
  refine gk_lconst (pc := 115) (1 : Int64) d_M_lookup_115 rfl ?_
  refine gk_lcmp (pc := 116) d_M_lookup_116 ?_
  refine gk_if_ge (pc := 117) 124 d_M_lookup_117 rfl (fun _ => ?_) (fun _ => ?_)
  · refine gk_iconst (pc := 124) (4 : Int32) d_M_lookup_124 rfl ?_
    refine gk_weak [] (L' := []) rfl ?_
    exact p_M_lookup_b125 d v0 (4 : Int32) h
  · refine gk_iconst (pc := 120) (3 : Int32) d_M_lookup_120 rfl ?_
    refine gk_goto (pc := 121) 125 d_M_lookup_121 rfl ?_
    refine gk_weak [] (L' := []) rfl ?_
    exact p_M_lookup_b125 d v0 (3 : Int32) h
theorem p_M_lookup_b223 (d : Nat)  (s0 : Option Nat) (s1 : Int32) (s2 : Int32) (h : gk_H) : gk_P gw_V (d + 5) y_M_lookup b_M_lookup 12 none [] (f_M_lookup_b223  s0 s1 s2 h) 223 [] [.int s2, .int s1, va_rf s0] h := by
  unfold f_M_lookup_b223
  refine gk_iadd (pc := 223) d_M_lookup_223 ?_
  refine gk_callV (pc := 224) (d := (d + 4)) (w' := gv_V) (as := [.int (s1 + s2)]) (n := 1) 7 d_M_lookup_224 rfl rfl rfl rfl (Nat.le_of_ble_eq_true rfl) tw_2070 tw_2072 tw_69 tw_99 cw_M_answerCell hy_M_answerCell (Nat.le_of_ble_eq_true rfl) (p_M_answerCell (d + 3) s0 (s1 + s2) h) fun _ h1 => ?_
  exact gk_vret (pc := 227) rfl d_M_lookup_227 rfl
theorem p_M_lookup_b170 (d : Nat)  (v0 : Option Nat) (v1 : Int32) (v2 : Int32) (v5 : Int64) (v10 : Int32) (s0 : Option Nat) (s1 : Int32) (s2 : Int32) (s3 : Int32) (s4 : Int32) (s5 : Int32) (h : gk_H) : gk_P gw_V (d + 5) y_M_lookup b_M_lookup 12 none [] (f_M_lookup_b170  v0 v1 v2 v5 v10 s0 s1 s2 s3 s4 s5 h) 170 [(0, va_rf v0), (1, .int v1), (2, .int v2), (5, .long v5), (10, .int v10)] [.int s5, .int s4, .int s3, .int s2, .int s1, va_rf s0] h := by
  unfold f_M_lookup_b170
  refine gk_callV (pc := 170) (d := (d + 4)) (w' := gv_I) (as := [.int s1, .int s2, .int s3, .int s4, .int s5]) (n := 5) 7 d_M_lookup_170 rfl rfl rfl rfl (Nat.le_of_ble_eq_true rfl) tw_2120 tw_2122 tw_81 tw_99 cw_M_match hy_M_match (Nat.le_of_ble_eq_true rfl) (p_M_match (d + 1) s0 s1 s2 s3 s4 s5 h) fun x1 h1 => ?_
  refine gk_istore (pc := 173) (L' := [(11, .int x1), (0, va_rf v0), (1, .int v1), (2, .int v2), (5, .long v5), (10, .int v10)]) d_M_lookup_173 (Nat.le_of_ble_eq_true rfl) rfl ?_
  refine gk_iload (pc := 175) 0 d_M_lookup_175 rfl ?_
  refine gk_if_ge (pc := 177) 187 d_M_lookup_177 rfl (fun _ => ?_) (fun _ => ?_)
  · refine gk_aload_n (pc := 187) 1 d_M_lookup_187 rfl ?_
    refine gk_bipush (pc := 188) (16 : Int32) d_M_lookup_188 rfl ?_
    refine gk_iload_n (pc := 190) 3 d_M_lookup_190 rfl ?_
    refine gk_iconst (pc := 191) (1 : Int32) d_M_lookup_191 rfl ?_
    refine gk_iadd (pc := 192) d_M_lookup_192 ?_
    refine gk_imul (pc := 193) d_M_lookup_193 ?_
    refine gk_iload_n (pc := 194) 2 d_M_lookup_194 rfl ?_
    refine gk_if_eq (pc := 195) 212 d_M_lookup_195 rfl (fun _ => ?_) (fun _ => ?_)
    · refine gk_lload (pc := 212) 4 d_M_lookup_212 rfl ?_
      refine gk_l2i (pc := 214) d_M_lookup_214 ?_
      refine gk_iconst (pc := 215) (1 : Int32) d_M_lookup_215 rfl ?_
      refine gk_isub (pc := 216) d_M_lookup_216 ?_
      refine gk_iload (pc := 217) 5 d_M_lookup_217 rfl ?_
      refine gk_imul (pc := 219) d_M_lookup_219 ?_
      refine gk_iload (pc := 220) 0 d_M_lookup_220 rfl ?_
      refine gk_iadd (pc := 222) d_M_lookup_222 ?_
      refine gk_weak [] (L' := []) rfl ?_
      exact p_M_lookup_b223 d v0 ((16 : Int32) * (v2 + (1 : Int32))) ((((Int64.toInt32 v5) - (1 : Int32)) * v10) + x1) h1
    · refine gk_iload (pc := 198) 0 d_M_lookup_198 rfl ?_
      refine gk_iload (pc := 200) 5 d_M_lookup_200 rfl ?_
      refine gk_imul (pc := 202) d_M_lookup_202 ?_
      refine gk_lload (pc := 203) 4 d_M_lookup_203 rfl ?_
      refine gk_l2i (pc := 205) d_M_lookup_205 ?_
      refine gk_iadd (pc := 206) d_M_lookup_206 ?_
      refine gk_iconst (pc := 207) (1 : Int32) d_M_lookup_207 rfl ?_
      refine gk_isub (pc := 208) d_M_lookup_208 ?_
      refine gk_goto (pc := 209) 223 d_M_lookup_209 rfl ?_
      refine gk_weak [] (L' := []) rfl ?_
      exact p_M_lookup_b223 d v0 ((16 : Int32) * (v2 + (1 : Int32))) (((x1 * v10) + (Int64.toInt32 v5)) - (1 : Int32)) h1
  · refine gk_aload_n (pc := 180) 1 d_M_lookup_180 rfl ?_
    refine gk_bipush (pc := 181) (7 : Int32) d_M_lookup_181 rfl ?_
    refine gk_callV (pc := 183) (d := (d + 4)) (w' := gv_V) (as := [.int (7 : Int32)]) (n := 1) 7 d_M_lookup_183 rfl rfl rfl rfl (Nat.le_of_ble_eq_true rfl) tw_1805 tw_1807 tw_21 tw_99 cw_M_fail hy_M_fail (Nat.le_of_ble_eq_true rfl) (p_M_fail (d + 4) v0 (7 : Int32) h1) fun _ h2 => ?_
    exact gk_vret (pc := 186) rfl d_M_lookup_186 rfl
theorem p_M_lookup_b160 (d : Nat)  (v0 : Option Nat) (v1 : Int32) (v2 : Int32) (v5 : Int64) (v7 : Int32) (v10 : Int32) (s0 : Option Nat) (s1 : Int32) (s2 : Int32) (s3 : Int32) (s4 : Int32) (h : gk_H) : gk_P gw_V (d + 5) y_M_lookup b_M_lookup 12 none [] (f_M_lookup_b160  v0 v1 v2 v5 v7 v10 s0 s1 s2 s3 s4 h) 160 [(0, va_rf v0), (1, .int v1), (2, .int v2), (5, .long v5), (7, .int v7), (10, .int v10)] [.int s4, .int s3, .int s2, .int s1, va_rf s0] h := by
  unfold f_M_lookup_b160
  refine gk_iload (pc := 160) 4 d_M_lookup_160 rfl ?_
  refine gk_if_eq (pc := 162) 169 d_M_lookup_162 rfl (fun _ => ?_) (fun _ => ?_)
  · refine gk_iconst (pc := 169) (0 : Int32) d_M_lookup_169 rfl ?_
    refine gk_weak [0, 1, 2, 3, 5] (L' := [(0, va_rf v0), (1, .int v1), (2, .int v2), (5, .long v5), (10, .int v10)]) rfl ?_
    exact p_M_lookup_b170 d v0 v1 v2 v5 v10 s0 s1 s2 s3 s4 (0 : Int32) h
  · refine gk_iconst (pc := 165) (1 : Int32) d_M_lookup_165 rfl ?_
    refine gk_goto (pc := 166) 170 d_M_lookup_166 rfl ?_
    refine gk_weak [0, 1, 2, 3, 5] (L' := [(0, va_rf v0), (1, .int v1), (2, .int v2), (5, .long v5), (10, .int v10)]) rfl ?_
    exact p_M_lookup_b170 d v0 v1 v2 v5 v10 s0 s1 s2 s3 s4 (1 : Int32) h
theorem p_M_lookup_b94 (d : Nat)  (v0 : Option Nat) (v1 : Int32) (v2 : Int32) (v4 : Int32) (v5 : Int64) (v7 : Int32) (v8 : Int32) (s0 : Int32) (h : gk_H) : gk_P gw_V (d + 5) y_M_lookup b_M_lookup 12 none [] (f_M_lookup_b94  v0 v1 v2 v4 v5 v7 v8 s0 h) 94 [(0, va_rf v0), (1, .int v1), (2, .int v2), (4, .int v4), (5, .long v5), (7, .int v7), (8, .int v8)] [.int s0] h := by
  unfold f_M_lookup_b94
  refine gk_istore (pc := 94) (L' := [(9, .int s0), (0, va_rf v0), (1, .int v1), (2, .int v2), (4, .int v4), (5, .long v5), (7, .int v7), (8, .int v8)]) d_M_lookup_94 (Nat.le_of_ble_eq_true rfl) rfl ?_
  refine gk_lload (pc := 96) 5 d_M_lookup_96 rfl ?_
  refine gk_lconst (pc := 98) (1 : Int64) d_M_lookup_98 rfl ?_
  refine gk_lcmp (pc := 99) d_M_lookup_99 ?_
  refine gk_if_lt (pc := 100) 112 d_M_lookup_100 rfl (fun _ => ?_) (fun _ => ?_)
  · refine gk_weak [1, 5] (L' := [(0, va_rf v0), (5, .long v5)]) rfl ?_
    exact p_M_lookup_b112 d v0 v5 h
  · refine gk_lload (pc := 103) 5 d_M_lookup_103 rfl ?_
    refine gk_iload (pc := 105) 0 d_M_lookup_105 rfl ?_
    refine gk_i2l (pc := 107) d_M_lookup_107 ?_
    refine gk_lcmp (pc := 108) d_M_lookup_108 ?_
    refine gk_if_le (pc := 109) 129 d_M_lookup_109 rfl (fun _ => ?_) (fun _ => ?_)
    · refine gk_aload_n (pc := 129) 1 d_M_lookup_129 rfl ?_
      refine gk_getR (pc := 130) 7 6 d_M_lookup_130 rfl (Nat.le_of_ble_eq_true rfl) tw_1651 fun x1 => ?_
      refine gk_iload_n (pc := 133) 3 d_M_lookup_133 rfl ?_
      refine gk_iconst (pc := 134) (1 : Int32) d_M_lookup_134 rfl ?_
      refine gk_iadd (pc := 135) d_M_lookup_135 ?_
      refine gk_iald (pc := 136) d_M_lookup_136 fun x2 => ?_
      refine gk_istore (pc := 137) (L' := [(10, .int x2), (9, .int s0), (0, va_rf v0), (1, .int v1), (2, .int v2), (4, .int v4), (5, .long v5), (7, .int v7), (8, .int v8)]) d_M_lookup_137 (Nat.le_of_ble_eq_true rfl) rfl ?_
      refine gk_aload_n (pc := 139) 2 d_M_lookup_139 rfl ?_
      refine gk_iload (pc := 140) 5 d_M_lookup_140 rfl ?_
      refine gk_bipush (pc := 142) (16 : Int32) d_M_lookup_142 rfl ?_
      refine gk_iload_n (pc := 144) 4 d_M_lookup_144 rfl ?_
      refine gk_iconst (pc := 145) (1 : Int32) d_M_lookup_145 rfl ?_
      refine gk_iadd (pc := 146) d_M_lookup_146 ?_
      refine gk_imul (pc := 147) d_M_lookup_147 ?_
      refine gk_iload (pc := 148) 8 d_M_lookup_148 rfl ?_
      refine gk_iload_n (pc := 150) 3 d_M_lookup_150 rfl ?_
      refine gk_if_eq (pc := 151) 159 d_M_lookup_151 rfl (fun _ => ?_) (fun _ => ?_)
      · refine gk_iconst (pc := 159) (1 : Int32) d_M_lookup_159 rfl ?_
        refine gk_weak [2, 3, 4, 6, 7, 0] (L' := [(0, va_rf v0), (1, .int v1), (2, .int v2), (5, .long v5), (7, .int v7), (10, .int x2)]) rfl ?_
        exact p_M_lookup_b160 d v0 v1 v2 v5 v7 x2 v0 v4 ((16 : Int32) * (v2 + (1 : Int32))) v8 (1 : Int32) h
      · refine gk_iload (pc := 154) 0 d_M_lookup_154 rfl ?_
        refine gk_goto (pc := 156) 160 d_M_lookup_156 rfl ?_
        refine gk_weak [2, 3, 4, 6, 7, 0] (L' := [(0, va_rf v0), (1, .int v1), (2, .int v2), (5, .long v5), (7, .int v7), (10, .int x2)]) rfl ?_
        exact p_M_lookup_b160 d v0 v1 v2 v5 v7 x2 v0 v4 ((16 : Int32) * (v2 + (1 : Int32))) v8 x2 h
    · refine gk_weak [1, 5] (L' := [(0, va_rf v0), (5, .long v5)]) rfl ?_
      exact p_M_lookup_b112 d v0 v5 h
theorem p_M_lookup_b69 (d : Nat)  (v0 : Option Nat) (v1 : Int32) (v2 : Int32) (v4 : Int32) (v5 : Int64) (v7 : Int32) (s0 : Int32) (h : gk_H) : gk_P gw_V (d + 5) y_M_lookup b_M_lookup 12 none [] (f_M_lookup_b69  v0 v1 v2 v4 v5 v7 s0 h) 69 [(0, va_rf v0), (1, .int v1), (2, .int v2), (4, .int v4), (5, .long v5), (7, .int v7)] [.int s0] h := by
  unfold f_M_lookup_b69
  refine gk_istore (pc := 69) (L' := [(8, .int s0), (0, va_rf v0), (1, .int v1), (2, .int v2), (4, .int v4), (5, .long v5), (7, .int v7)]) d_M_lookup_69 (Nat.le_of_ble_eq_true rfl) rfl ?_
  refine gk_iload_n (pc := 71) 2 d_M_lookup_71 rfl ?_
  refine gk_if_eq (pc := 72) 86 d_M_lookup_72 rfl (fun _ => ?_) (fun _ => ?_)
  · refine gk_aload_n (pc := 86) 1 d_M_lookup_86 rfl ?_
    refine gk_getR (pc := 87) 7 5 d_M_lookup_87 rfl (Nat.le_of_ble_eq_true rfl) tw_1650 fun x1 => ?_
    refine gk_iload_n (pc := 90) 3 d_M_lookup_90 rfl ?_
    refine gk_iconst (pc := 91) (1 : Int32) d_M_lookup_91 rfl ?_
    refine gk_iadd (pc := 92) d_M_lookup_92 ?_
    refine gk_iald (pc := 93) d_M_lookup_93 fun x2 => ?_
    refine gk_weak [1, 2, 3, 4, 5, 6, 0] (L' := [(0, va_rf v0), (1, .int v1), (2, .int v2), (4, .int v4), (5, .long v5), (7, .int v7), (8, .int s0)]) rfl ?_
    exact p_M_lookup_b94 d v0 v1 v2 v4 v5 v7 s0 x2 h
  · refine gk_aload_n (pc := 75) 1 d_M_lookup_75 rfl ?_
    refine gk_getR (pc := 76) 7 6 d_M_lookup_76 rfl (Nat.le_of_ble_eq_true rfl) tw_1651 fun x3 => ?_
    refine gk_iload_n (pc := 79) 3 d_M_lookup_79 rfl ?_
    refine gk_iconst (pc := 80) (1 : Int32) d_M_lookup_80 rfl ?_
    refine gk_iadd (pc := 81) d_M_lookup_81 ?_
    refine gk_iald (pc := 82) d_M_lookup_82 fun x4 => ?_
    refine gk_goto (pc := 83) 94 d_M_lookup_83 rfl ?_
    refine gk_weak [1, 2, 3, 4, 5, 6, 0] (L' := [(0, va_rf v0), (1, .int v1), (2, .int v2), (4, .int v4), (5, .long v5), (7, .int v7), (8, .int s0)]) rfl ?_
    exact p_M_lookup_b94 d v0 v1 v2 v4 v5 v7 s0 x4 h
theorem p_M_lookup_b36 (d : Nat)  (v0 : Option Nat) (v1 : Int32) (v2 : Int32) (v4 : Int32) (v5 : Int64) (s0 : Int32) (h : gk_H) : gk_P gw_V (d + 5) y_M_lookup b_M_lookup 12 none [] (f_M_lookup_b36  v0 v1 v2 v4 v5 s0 h) 36 [(0, va_rf v0), (1, .int v1), (2, .int v2), (4, .int v4), (5, .long v5)] [.int s0] h := by
  unfold f_M_lookup_b36
  refine gk_istore (pc := 36) (L' := [(7, .int s0), (0, va_rf v0), (1, .int v1), (2, .int v2), (4, .int v4), (5, .long v5)]) d_M_lookup_36 (Nat.le_of_ble_eq_true rfl) rfl ?_
  refine gk_aload_n (pc := 38) 1 d_M_lookup_38 rfl ?_
  refine gk_getI (pc := 39) 7 11 d_M_lookup_39 rfl (Nat.le_of_ble_eq_true rfl) tw_1656 fun x1 => ?_
  refine gk_if_le (pc := 42) 46 d_M_lookup_42 rfl (fun _ => ?_) (fun _ => ?_)
  · refine gk_iload_n (pc := 46) 2 d_M_lookup_46 rfl ?_
    refine gk_if_eq (pc := 47) 61 d_M_lookup_47 rfl (fun _ => ?_) (fun _ => ?_)
    · refine gk_aload_n (pc := 61) 1 d_M_lookup_61 rfl ?_
      refine gk_getR (pc := 62) 7 6 d_M_lookup_62 rfl (Nat.le_of_ble_eq_true rfl) tw_1651 fun x2 => ?_
      refine gk_iload_n (pc := 65) 3 d_M_lookup_65 rfl ?_
      refine gk_iconst (pc := 66) (1 : Int32) d_M_lookup_66 rfl ?_
      refine gk_iadd (pc := 67) d_M_lookup_67 ?_
      refine gk_iald (pc := 68) d_M_lookup_68 fun x3 => ?_
      refine gk_weak [1, 2, 3, 4, 5, 0] (L' := [(0, va_rf v0), (1, .int v1), (2, .int v2), (4, .int v4), (5, .long v5), (7, .int s0)]) rfl ?_
      exact p_M_lookup_b69 d v0 v1 v2 v4 v5 s0 x3 h
    · refine gk_aload_n (pc := 50) 1 d_M_lookup_50 rfl ?_
      refine gk_getR (pc := 51) 7 5 d_M_lookup_51 rfl (Nat.le_of_ble_eq_true rfl) tw_1650 fun x4 => ?_
      refine gk_iload_n (pc := 54) 3 d_M_lookup_54 rfl ?_
      refine gk_iconst (pc := 55) (1 : Int32) d_M_lookup_55 rfl ?_
      refine gk_iadd (pc := 56) d_M_lookup_56 ?_
      refine gk_iald (pc := 57) d_M_lookup_57 fun x5 => ?_
      refine gk_goto (pc := 58) 69 d_M_lookup_58 rfl ?_
      refine gk_weak [1, 2, 3, 4, 5, 0] (L' := [(0, va_rf v0), (1, .int v1), (2, .int v2), (4, .int v4), (5, .long v5), (7, .int s0)]) rfl ?_
      exact p_M_lookup_b69 d v0 v1 v2 v4 v5 s0 x5 h
  · exact gk_vret (pc := 45) rfl d_M_lookup_45 rfl
theorem p_M_lookup_b31 (d : Nat)  (v0 : Option Nat) (v1 : Int32) (v2 : Int32) (v4 : Int32) (v5 : Int64) (h : gk_H) : gk_P gw_V (d + 5) y_M_lookup b_M_lookup 12 none [] (f_M_lookup_b31  v0 v1 v2 v4 v5 h) 31 [(0, va_rf v0), (1, .int v1), (2, .int v2), (4, .int v4), (5, .long v5)] [] h := by
  unfold f_M_lookup_b31
  refine gk_iconst (pc := 31) (1 : Int32) d_M_lookup_31 rfl ?_
  refine gk_goto (pc := 32) 36 d_M_lookup_32 rfl ?_
  exact p_M_lookup_b36 d v0 v1 v2 v4 v5 (1 : Int32) h
theorem w_M_lookup (d : Nat) (a0 : Option Nat) (a1 : Int32) (a2 : Int32) (a3 : Int32) (h : gk_H) : gk_P gw_V (d + 5) y_M_lookup b_M_lookup 12 none [] (f_M_lookup a0 a1 a2 a3 h) 0 [(0, va_rf a0), (1, .int a1), (2, .int a2), (3, .int a3)] [] h := by
  unfold f_M_lookup
  refine gk_aload_n (pc := 0) 0 d_M_lookup_0 rfl ?_
  refine gk_iload_n (pc := 1) 2 d_M_lookup_1 rfl ?_
  refine gk_callV (pc := 2) (d := (d + 4)) (w' := gv_I) (as := [.int a2]) (n := 1) 7 d_M_lookup_2 rfl rfl rfl rfl (Nat.le_of_ble_eq_true rfl) tw_1797 tw_1799 tw_19 tw_99 cw_M_wantAny hy_M_wantAny (Nat.le_of_ble_eq_true rfl) (p_M_wantAny (d + 2) a0 a2 h) fun x1 h1 => ?_
  refine gk_istore (pc := 5) (L' := [(4, .int x1), (0, va_rf a0), (1, .int a1), (2, .int a2), (3, .int a3)]) d_M_lookup_5 (Nat.le_of_ble_eq_true rfl) rfl ?_
  refine gk_aload_n (pc := 7) 1 d_M_lookup_7 rfl ?_
  refine gk_iload_n (pc := 8) 3 d_M_lookup_8 rfl ?_
  refine gk_iconst (pc := 9) (2 : Int32) d_M_lookup_9 rfl ?_
  refine gk_iadd (pc := 10) d_M_lookup_10 ?_
  refine gk_callV (pc := 11) (d := (d + 4)) (w' := gv_J) (as := [.int (a2 + (2 : Int32))]) (n := 1) 7 d_M_lookup_11 rfl rfl rfl rfl (Nat.le_of_ble_eq_true rfl) tw_1954 tw_1956 tw_45 tw_99 cw_M_wantWhole hy_M_wantWhole (Nat.le_of_ble_eq_true rfl) (p_M_wantWhole d a0 (a2 + (2 : Int32)) h1) fun x2 h2 => ?_
  refine gk_lstore (pc := 14) (L' := [(5, .long x2), (4, .int x1), (0, va_rf a0), (1, .int a1), (2, .int a2), (3, .int a3)]) d_M_lookup_14 (Nat.le_of_ble_eq_true rfl) rfl ?_
  refine gk_iload_n (pc := 16) 5 d_M_lookup_16 rfl ?_
  refine gk_iconst (pc := 17) (4 : Int32) d_M_lookup_17 rfl ?_
  refine gk_icmp_lt (pc := 18) 31 d_M_lookup_18 rfl (fun _ => ?_) (fun _ => ?_)
  · refine gk_weak [2, 3, 4, 1, 0] (L' := [(0, va_rf a0), (1, .int a1), (2, .int a2), (4, .int x1), (5, .long x2)]) rfl ?_
    exact p_M_lookup_b31 d a0 a1 a2 x1 x2 h2
  · refine gk_aload_n (pc := 21) 2 d_M_lookup_21 rfl ?_
    refine gk_iload_n (pc := 22) 4 d_M_lookup_22 rfl ?_
    refine gk_iconst (pc := 23) (3 : Int32) d_M_lookup_23 rfl ?_
    refine gk_iadd (pc := 24) d_M_lookup_24 ?_
    refine gk_callV (pc := 25) (d := (d + 4)) (w' := gv_I) (as := [.int (a2 + (3 : Int32))]) (n := 1) 7 d_M_lookup_25 rfl rfl rfl rfl (Nat.le_of_ble_eq_true rfl) tw_2050 tw_2052 tw_65 tw_99 cw_M_wantTruth hy_M_wantTruth (Nat.le_of_ble_eq_true rfl) (p_M_wantTruth (d + 2) a0 (a2 + (3 : Int32)) h2) fun x3 h3 => ?_
    refine gk_if_eq (pc := 28) 35 d_M_lookup_28 rfl (fun _ => ?_) (fun _ => ?_)
    · refine gk_iconst (pc := 35) (0 : Int32) d_M_lookup_35 rfl ?_
      refine gk_weak [2, 3, 4, 1, 0] (L' := [(0, va_rf a0), (1, .int a1), (2, .int a2), (4, .int x1), (5, .long x2)]) rfl ?_
      exact p_M_lookup_b36 d a0 a1 a2 x1 x2 (0 : Int32) h3
    · refine gk_weak [2, 3, 4, 1, 0] (L' := [(0, va_rf a0), (1, .int a1), (2, .int a2), (4, .int x1), (5, .long x2)]) rfl ?_
      exact p_M_lookup_b31 d a0 a1 a2 x1 x2 h3
theorem p_M_lookup (d : Nat) (a0 : Option Nat) (a1 : Int32) (a2 : Int32) (a3 : Int32) (h : gk_H) : ∀ r h1, f_M_lookup a0 a1 a2 a3 h = some (r, h1) → gk_M (d + 5) y_M_lookup b_M_lookup 12 none [va_rf a0, .int a1, .int a2, .int a3] h (.inl (gv_V r)) h1 :=
  fun r h1 e => gk_M_of2 (by decide +kernel) (by simp [lv_args, gk_cat_rf, gk_catI, gk_catJ, gk_catD, gv_V, gv_I, gv_J, gv_D, gv_R]) (by simp [lg_sl, gk_cat_rf, gk_catI, gk_catJ, gk_catD, gv_V, gv_I, gv_J, gv_D, gv_R]) (w_M_lookup d a0 a1 a2 a3 h r h1 e)
theorem d_M_lookups_0 : decode b_M_lookups 0 = .ok (.iload_n 1, 1) := by decide +kernel
theorem d_M_lookups_1 : decode b_M_lookups 1 = .ok (.bipush 76, 2) := by decide +kernel
theorem d_M_lookups_3 : decode b_M_lookups 3 = .ok (.if_icmp .ge 33, 3) := by decide +kernel
theorem d_M_lookups_6 : decode b_M_lookups 6 = .ok (.aload_n 0, 1) := by decide +kernel
theorem d_M_lookups_7 : decode b_M_lookups 7 = .ok (.iload_n 1, 1) := by decide +kernel
theorem d_M_lookups_8 : decode b_M_lookups 8 = .ok (.bipush 74, 2) := by decide +kernel
theorem d_M_lookups_10 : decode b_M_lookups 10 = .ok (.if_icmp .ne 13, 3) := by decide +kernel
theorem d_M_lookups_13 : decode b_M_lookups 13 = .ok (.aload_n 0, 1) := by decide +kernel
theorem d_M_lookups_14 : decode b_M_lookups 14 = .ok (.getfield 17, 3) := by decide +kernel
theorem d_M_lookups_17 : decode b_M_lookups 17 = .ok (.iload_n 2, 1) := by decide +kernel
theorem d_M_lookups_18 : decode b_M_lookups 18 = .ok (.iaload, 1) := by decide +kernel
theorem d_M_lookups_19 : decode b_M_lookups 19 = .ok (.i2d, 1) := by decide +kernel
theorem d_M_lookups_20 : decode b_M_lookups 20 = .ok (.goto 10, 3) := by decide +kernel
theorem d_M_lookups_23 : decode b_M_lookups 23 = .ok (.aload_n 0, 1) := by decide +kernel
theorem d_M_lookups_24 : decode b_M_lookups 24 = .ok (.getfield 20, 3) := by decide +kernel
theorem d_M_lookups_27 : decode b_M_lookups 27 = .ok (.iload_n 2, 1) := by decide +kernel
theorem d_M_lookups_28 : decode b_M_lookups 28 = .ok (.iaload, 1) := by decide +kernel
theorem d_M_lookups_29 : decode b_M_lookups 29 = .ok (.i2d, 1) := by decide +kernel
theorem d_M_lookups_30 : decode b_M_lookups 30 = .ok (.invokevirtual 207, 3) := by decide +kernel
theorem d_M_lookups_33 : decode b_M_lookups 33 = .ok (.goto 197, 3) := by decide +kernel
theorem d_M_lookups_36 : decode b_M_lookups 36 = .ok (.iload_n 1, 1) := by decide +kernel
theorem d_M_lookups_37 : decode b_M_lookups 37 = .ok (.bipush 76, 2) := by decide +kernel
theorem d_M_lookups_39 : decode b_M_lookups 39 = .ok (.if_icmp .ne 12, 3) := by decide +kernel
theorem d_M_lookups_42 : decode b_M_lookups 42 = .ok (.aload_n 0, 1) := by decide +kernel
theorem d_M_lookups_43 : decode b_M_lookups 43 = .ok (.iload_n 2, 1) := by decide +kernel
theorem d_M_lookups_44 : decode b_M_lookups 44 = .ok (.iload_n 3, 1) := by decide +kernel
theorem d_M_lookups_45 : decode b_M_lookups 45 = .ok (.invokevirtual 409, 3) := by decide +kernel
theorem d_M_lookups_48 : decode b_M_lookups 48 = .ok (.goto 182, 3) := by decide +kernel
theorem d_M_lookups_51 : decode b_M_lookups 51 = .ok (.iload_n 1, 1) := by decide +kernel
theorem d_M_lookups_52 : decode b_M_lookups 52 = .ok (.bipush 77, 2) := by decide +kernel
theorem d_M_lookups_54 : decode b_M_lookups 54 = .ok (.if_icmp .ne 145, 3) := by decide +kernel
theorem d_M_lookups_57 : decode b_M_lookups 57 = .ok (.aload_n 0, 1) := by decide +kernel
theorem d_M_lookups_58 : decode b_M_lookups 58 = .ok (.iload_n 2, 1) := by decide +kernel
theorem d_M_lookups_59 : decode b_M_lookups 59 = .ok (.invokevirtual 183, 3) := by decide +kernel
theorem d_M_lookups_62 : decode b_M_lookups 62 = .ok (.istore 4, 2) := by decide +kernel
theorem d_M_lookups_64 : decode b_M_lookups 64 = .ok (.iload_n 3, 1) := by decide +kernel
theorem d_M_lookups_65 : decode b_M_lookups 65 = .ok (.iconst 3, 1) := by decide +kernel
theorem d_M_lookups_66 : decode b_M_lookups 66 = .ok (.if_icmp .ne 13, 3) := by decide +kernel
theorem d_M_lookups_69 : decode b_M_lookups 69 = .ok (.aload_n 0, 1) := by decide +kernel
theorem d_M_lookups_70 : decode b_M_lookups 70 = .ok (.iload_n 2, 1) := by decide +kernel
theorem d_M_lookups_71 : decode b_M_lookups 71 = .ok (.iconst 2, 1) := by decide +kernel
theorem d_M_lookups_72 : decode b_M_lookups 72 = .ok (.iadd, 1) := by decide +kernel
theorem d_M_lookups_73 : decode b_M_lookups 73 = .ok (.invokevirtual 296, 3) := by decide +kernel
theorem d_M_lookups_76 : decode b_M_lookups 76 = .ok (.goto 4, 3) := by decide +kernel
theorem d_M_lookups_79 : decode b_M_lookups 79 = .ok (.lconst 1, 1) := by decide +kernel
theorem d_M_lookups_80 : decode b_M_lookups 80 = .ok (.lstore 5, 2) := by decide +kernel
theorem d_M_lookups_82 : decode b_M_lookups 82 = .ok (.aload_n 0, 1) := by decide +kernel
theorem d_M_lookups_83 : decode b_M_lookups 83 = .ok (.getfield 62, 3) := by decide +kernel
theorem d_M_lookups_86 : decode b_M_lookups 86 = .ok (.ifCond .le 4, 3) := by decide +kernel
theorem d_M_lookups_89 : decode b_M_lookups 89 = .ok (.return_, 1) := by decide +kernel
theorem d_M_lookups_90 : decode b_M_lookups 90 = .ok (.aload_n 0, 1) := by decide +kernel
theorem d_M_lookups_91 : decode b_M_lookups 91 = .ok (.getfield 17, 3) := by decide +kernel
theorem d_M_lookups_94 : decode b_M_lookups 94 = .ok (.iload_n 2, 1) := by decide +kernel
theorem d_M_lookups_95 : decode b_M_lookups 95 = .ok (.iconst 1, 1) := by decide +kernel
theorem d_M_lookups_96 : decode b_M_lookups 96 = .ok (.iadd, 1) := by decide +kernel
theorem d_M_lookups_97 : decode b_M_lookups 97 = .ok (.iaload, 1) := by decide +kernel
theorem d_M_lookups_98 : decode b_M_lookups 98 = .ok (.iconst 1, 1) := by decide +kernel
theorem d_M_lookups_99 : decode b_M_lookups 99 = .ok (.if_icmp .le 22, 3) := by decide +kernel
theorem d_M_lookups_102 : decode b_M_lookups 102 = .ok (.aload_n 0, 1) := by decide +kernel
theorem d_M_lookups_103 : decode b_M_lookups 103 = .ok (.getfield 20, 3) := by decide +kernel
theorem d_M_lookups_106 : decode b_M_lookups 106 = .ok (.iload_n 2, 1) := by decide +kernel
theorem d_M_lookups_107 : decode b_M_lookups 107 = .ok (.iconst 1, 1) := by decide +kernel
theorem d_M_lookups_108 : decode b_M_lookups 108 = .ok (.iadd, 1) := by decide +kernel
theorem d_M_lookups_109 : decode b_M_lookups 109 = .ok (.iaload, 1) := by decide +kernel
theorem d_M_lookups_110 : decode b_M_lookups 110 = .ok (.iconst 1, 1) := by decide +kernel
theorem d_M_lookups_111 : decode b_M_lookups 111 = .ok (.if_icmp .le 10, 3) := by decide +kernel
theorem d_M_lookups_114 : decode b_M_lookups 114 = .ok (.aload_n 0, 1) := by decide +kernel
theorem d_M_lookups_115 : decode b_M_lookups 115 = .ok (.bipush 7, 2) := by decide +kernel
theorem d_M_lookups_117 : decode b_M_lookups 117 = .ok (.invokevirtual 58, 3) := by decide +kernel
theorem d_M_lookups_120 : decode b_M_lookups 120 = .ok (.return_, 1) := by decide +kernel
theorem d_M_lookups_121 : decode b_M_lookups 121 = .ok (.aload_n 0, 1) := by decide +kernel
theorem d_M_lookups_122 : decode b_M_lookups 122 = .ok (.iload 4, 2) := by decide +kernel
theorem d_M_lookups_124 : decode b_M_lookups 124 = .ok (.bipush 16, 2) := by decide +kernel
theorem d_M_lookups_126 : decode b_M_lookups 126 = .ok (.iload_n 2, 1) := by decide +kernel
theorem d_M_lookups_127 : decode b_M_lookups 127 = .ok (.iconst 1, 1) := by decide +kernel
theorem d_M_lookups_128 : decode b_M_lookups 128 = .ok (.iadd, 1) := by decide +kernel
theorem d_M_lookups_129 : decode b_M_lookups 129 = .ok (.imul, 1) := by decide +kernel
theorem d_M_lookups_130 : decode b_M_lookups 130 = .ok (.aload_n 0, 1) := by decide +kernel
theorem d_M_lookups_131 : decode b_M_lookups 131 = .ok (.getfield 17, 3) := by decide +kernel
theorem d_M_lookups_134 : decode b_M_lookups 134 = .ok (.iload_n 2, 1) := by decide +kernel
theorem d_M_lookups_135 : decode b_M_lookups 135 = .ok (.iconst 1, 1) := by decide +kernel
theorem d_M_lookups_136 : decode b_M_lookups 136 = .ok (.iadd, 1) := by decide +kernel
theorem d_M_lookups_137 : decode b_M_lookups 137 = .ok (.iaload, 1) := by decide +kernel
theorem d_M_lookups_138 : decode b_M_lookups 138 = .ok (.aload_n 0, 1) := by decide +kernel
theorem d_M_lookups_139 : decode b_M_lookups 139 = .ok (.getfield 20, 3) := by decide +kernel
theorem d_M_lookups_142 : decode b_M_lookups 142 = .ok (.iload_n 2, 1) := by decide +kernel
theorem d_M_lookups_143 : decode b_M_lookups 143 = .ok (.iconst 1, 1) := by decide +kernel
theorem d_M_lookups_144 : decode b_M_lookups 144 = .ok (.iadd, 1) := by decide +kernel
theorem d_M_lookups_145 : decode b_M_lookups 145 = .ok (.iaload, 1) := by decide +kernel
theorem d_M_lookups_146 : decode b_M_lookups 146 = .ok (.imul, 1) := by decide +kernel
theorem d_M_lookups_147 : decode b_M_lookups 147 = .ok (.iconst 1, 1) := by decide +kernel
theorem d_M_lookups_148 : decode b_M_lookups 148 = .ok (.lload 5, 2) := by decide +kernel
theorem d_M_lookups_150 : decode b_M_lookups 150 = .ok (.lconst 0, 1) := by decide +kernel
theorem d_M_lookups_151 : decode b_M_lookups 151 = .ok (.lcmp, 1) := by decide +kernel
theorem d_M_lookups_152 : decode b_M_lookups 152 = .ok (.ifCond .ge 7, 3) := by decide +kernel
theorem d_M_lookups_155 : decode b_M_lookups 155 = .ok (.iconst (-1), 1) := by decide +kernel
theorem d_M_lookups_156 : decode b_M_lookups 156 = .ok (.goto 15, 3) := by decide +kernel
theorem d_M_lookups_159 : decode b_M_lookups 159 = .ok (.lload 5, 2) := by decide +kernel
theorem d_M_lookups_161 : decode b_M_lookups 161 = .ok (.lconst 0, 1) := by decide +kernel
theorem d_M_lookups_162 : decode b_M_lookups 162 = .ok (.lcmp, 1) := by decide +kernel
theorem d_M_lookups_163 : decode b_M_lookups 163 = .ok (.ifCond .le 7, 3) := by decide +kernel
theorem d_M_lookups_166 : decode b_M_lookups 166 = .ok (.iconst 1, 1) := by decide +kernel
theorem d_M_lookups_167 : decode b_M_lookups 167 = .ok (.goto 4, 3) := by decide +kernel
theorem d_M_lookups_170 : decode b_M_lookups 170 = .ok (.iconst 0, 1) := by decide +kernel
theorem d_M_lookups_171 : decode b_M_lookups 171 = .ok (.invokevirtual 412, 3) := by decide +kernel
theorem d_M_lookups_174 : decode b_M_lookups 174 = .ok (.istore 7, 2) := by decide +kernel
theorem d_M_lookups_176 : decode b_M_lookups 176 = .ok (.iload 7, 2) := by decide +kernel
theorem d_M_lookups_178 : decode b_M_lookups 178 = .ok (.ifCond .ge 9, 3) := by decide +kernel
theorem d_M_lookups_181 : decode b_M_lookups 181 = .ok (.aload_n 0, 1) := by decide +kernel
theorem d_M_lookups_182 : decode b_M_lookups 182 = .ok (.bipush 7, 2) := by decide +kernel
theorem d_M_lookups_184 : decode b_M_lookups 184 = .ok (.invokevirtual 58, 3) := by decide +kernel
theorem d_M_lookups_187 : decode b_M_lookups 187 = .ok (.aload_n 0, 1) := by decide +kernel
theorem d_M_lookups_188 : decode b_M_lookups 188 = .ok (.iload 7, 2) := by decide +kernel
theorem d_M_lookups_190 : decode b_M_lookups 190 = .ok (.iconst 1, 1) := by decide +kernel
theorem d_M_lookups_191 : decode b_M_lookups 191 = .ok (.iadd, 1) := by decide +kernel
theorem d_M_lookups_192 : decode b_M_lookups 192 = .ok (.i2d, 1) := by decide +kernel
theorem d_M_lookups_193 : decode b_M_lookups 193 = .ok (.invokevirtual 207, 3) := by decide +kernel
theorem d_M_lookups_196 : decode b_M_lookups 196 = .ok (.goto 34, 3) := by decide +kernel
theorem d_M_lookups_199 : decode b_M_lookups 199 = .ok (.iload_n 1, 1) := by decide +kernel
theorem d_M_lookups_200 : decode b_M_lookups 200 = .ok (.bipush 80, 2) := by decide +kernel
theorem d_M_lookups_202 : decode b_M_lookups 202 = .ok (.if_icmp .ne 11, 3) := by decide +kernel
theorem d_M_lookups_205 : decode b_M_lookups 205 = .ok (.aload_n 0, 1) := by decide +kernel
theorem d_M_lookups_206 : decode b_M_lookups 206 = .ok (.iload_n 2, 1) := by decide +kernel
theorem d_M_lookups_207 : decode b_M_lookups 207 = .ok (.invokevirtual 416, 3) := by decide +kernel
theorem d_M_lookups_210 : decode b_M_lookups 210 = .ok (.goto 20, 3) := by decide +kernel
theorem d_M_lookups_213 : decode b_M_lookups 213 = .ok (.aload_n 0, 1) := by decide +kernel
theorem d_M_lookups_214 : decode b_M_lookups 214 = .ok (.iload_n 1, 1) := by decide +kernel
theorem d_M_lookups_215 : decode b_M_lookups 215 = .ok (.bipush 78, 2) := by decide +kernel
theorem d_M_lookups_217 : decode b_M_lookups 217 = .ok (.if_icmp .ne 7, 3) := by decide +kernel
theorem d_M_lookups_220 : decode b_M_lookups 220 = .ok (.iconst 1, 1) := by decide +kernel
theorem d_M_lookups_221 : decode b_M_lookups 221 = .ok (.goto 4, 3) := by decide +kernel
theorem d_M_lookups_224 : decode b_M_lookups 224 = .ok (.iconst 0, 1) := by decide +kernel
theorem d_M_lookups_225 : decode b_M_lookups 225 = .ok (.iload_n 2, 1) := by decide +kernel
theorem d_M_lookups_226 : decode b_M_lookups 226 = .ok (.iload_n 3, 1) := by decide +kernel
theorem d_M_lookups_227 : decode b_M_lookups 227 = .ok (.invokevirtual 419, 3) := by decide +kernel
theorem d_M_lookups_230 : decode b_M_lookups 230 = .ok (.return_, 1) := by decide +kernel
theorem p_M_lookups_b230 (d : Nat)   (h : gk_H) : gk_P gw_V (d + 6) y_M_lookups b_M_lookups 8 none [] (f_M_lookups_b230   h) 230 [] [] h := by
  unfold f_M_lookups_b230
  exact gk_vret (pc := 230) rfl d_M_lookups_230 rfl
theorem p_M_lookups_b225 (d : Nat)  (v2 : Int32) (v3 : Int32) (s0 : Option Nat) (s1 : Int32) (h : gk_H) : gk_P gw_V (d + 6) y_M_lookups b_M_lookups 8 none [] (f_M_lookups_b225  v2 v3 s0 s1 h) 225 [(2, .int v2), (3, .int v3)] [.int s1, va_rf s0] h := by
  unfold f_M_lookups_b225
  refine gk_iload_n (pc := 225) 0 d_M_lookups_225 rfl ?_
  refine gk_iload_n (pc := 226) 1 d_M_lookups_226 rfl ?_
  refine gk_callV (pc := 227) (d := (d + 5)) (w' := gv_V) (as := [.int s1, .int v2, .int v3]) (n := 3) 7 d_M_lookups_227 rfl rfl rfl rfl (Nat.le_of_ble_eq_true rfl) tw_2128 tw_2130 tw_83 tw_99 cw_M_lookup hy_M_lookup (Nat.le_of_ble_eq_true rfl) (p_M_lookup d s0 s1 v2 v3 h) fun _ h1 => ?_
  refine gk_weak [] (L' := []) rfl ?_
  exact p_M_lookups_b230 d h1
theorem p_M_lookups_b187 (d : Nat)  (v0 : Option Nat) (v7 : Int32) (h : gk_H) : gk_P gw_V (d + 6) y_M_lookups b_M_lookups 8 none [] (f_M_lookups_b187  v0 v7 h) 187 [(0, va_rf v0), (7, .int v7)] [] h := by
  unfold f_M_lookups_b187
  refine gk_aload_n (pc := 187) 0 d_M_lookups_187 rfl ?_
  refine gk_iload (pc := 188) 1 d_M_lookups_188 rfl ?_
  refine gk_iconst (pc := 190) (1 : Int32) d_M_lookups_190 rfl ?_
  refine gk_iadd (pc := 191) d_M_lookups_191 ?_
  refine gk_i2d (pc := 192) d_M_lookups_192 ?_
  refine gk_callV (pc := 193) (d := (d + 5)) (w' := gv_V) (as := [.double (FP.i2d (v7 + (1 : Int32)))]) (n := 1) 7 d_M_lookups_193 rfl rfl rfl rfl (Nat.le_of_ble_eq_true rfl) tw_1916 tw_1918 tw_38 tw_99 cw_M_answerNumber hy_M_answerNumber (Nat.le_of_ble_eq_true rfl) (p_M_answerNumber (d + 4) v0 (FP.i2d (v7 + (1 : Int32))) h) fun _ h1 => ?_
  refine gk_goto (pc := 196) 230 d_M_lookups_196 rfl ?_
  refine gk_weak [] (L' := []) rfl ?_
  exact p_M_lookups_b230 d h1
theorem p_M_lookups_b171 (d : Nat)  (v0 : Option Nat) (s0 : Option Nat) (s1 : Int32) (s2 : Int32) (s3 : Int32) (s4 : Int32) (s5 : Int32) (h : gk_H) : gk_P gw_V (d + 6) y_M_lookups b_M_lookups 8 none [] (f_M_lookups_b171  v0 s0 s1 s2 s3 s4 s5 h) 171 [(0, va_rf v0)] [.int s5, .int s4, .int s3, .int s2, .int s1, va_rf s0] h := by
  unfold f_M_lookups_b171
  refine gk_callV (pc := 171) (d := (d + 5)) (w' := gv_I) (as := [.int s1, .int s2, .int s3, .int s4, .int s5]) (n := 5) 7 d_M_lookups_171 rfl rfl rfl rfl (Nat.le_of_ble_eq_true rfl) tw_2120 tw_2122 tw_81 tw_99 cw_M_match hy_M_match (Nat.le_of_ble_eq_true rfl) (p_M_match (d + 2) s0 s1 s2 s3 s4 s5 h) fun x1 h1 => ?_
  refine gk_istore (pc := 174) (L' := [(7, .int x1), (0, va_rf v0)]) d_M_lookups_174 (Nat.le_of_ble_eq_true rfl) rfl ?_
  refine gk_iload (pc := 176) 0 d_M_lookups_176 rfl ?_
  refine gk_if_ge (pc := 178) 187 d_M_lookups_178 rfl (fun _ => ?_) (fun _ => ?_)
  · refine gk_weak [1, 0] (L' := [(0, va_rf v0), (7, .int x1)]) rfl ?_
    exact p_M_lookups_b187 d v0 x1 h1
  · refine gk_aload_n (pc := 181) 1 d_M_lookups_181 rfl ?_
    refine gk_bipush (pc := 182) (7 : Int32) d_M_lookups_182 rfl ?_
    refine gk_callV (pc := 184) (d := (d + 5)) (w' := gv_V) (as := [.int (7 : Int32)]) (n := 1) 7 d_M_lookups_184 rfl rfl rfl rfl (Nat.le_of_ble_eq_true rfl) tw_1805 tw_1807 tw_21 tw_99 cw_M_fail hy_M_fail (Nat.le_of_ble_eq_true rfl) (p_M_fail (d + 5) v0 (7 : Int32) h1) fun _ h2 => ?_
    refine gk_weak [1, 0] (L' := [(0, va_rf v0), (7, .int x1)]) rfl ?_
    exact p_M_lookups_b187 d v0 x1 h2
theorem p_M_lookups_b121 (d : Nat)  (v0 : Option Nat) (v2 : Int32) (v4 : Int32) (v5 : Int64) (h : gk_H) : gk_P gw_V (d + 6) y_M_lookups b_M_lookups 8 none [] (f_M_lookups_b121  v0 v2 v4 v5 h) 121 [(0, va_rf v0), (2, .int v2), (4, .int v4), (5, .long v5)] [] h := by
  unfold f_M_lookups_b121
  refine gk_aload_n (pc := 121) 0 d_M_lookups_121 rfl ?_
  refine gk_iload (pc := 122) 2 d_M_lookups_122 rfl ?_
  refine gk_bipush (pc := 124) (16 : Int32) d_M_lookups_124 rfl ?_
  refine gk_iload_n (pc := 126) 1 d_M_lookups_126 rfl ?_
  refine gk_iconst (pc := 127) (1 : Int32) d_M_lookups_127 rfl ?_
  refine gk_iadd (pc := 128) d_M_lookups_128 ?_
  refine gk_imul (pc := 129) d_M_lookups_129 ?_
  refine gk_aload_n (pc := 130) 0 d_M_lookups_130 rfl ?_
  refine gk_getR (pc := 131) 7 5 d_M_lookups_131 rfl (Nat.le_of_ble_eq_true rfl) tw_1650 fun x1 => ?_
  refine gk_iload_n (pc := 134) 1 d_M_lookups_134 rfl ?_
  refine gk_iconst (pc := 135) (1 : Int32) d_M_lookups_135 rfl ?_
  refine gk_iadd (pc := 136) d_M_lookups_136 ?_
  refine gk_iald (pc := 137) d_M_lookups_137 fun x2 => ?_
  refine gk_aload_n (pc := 138) 0 d_M_lookups_138 rfl ?_
  refine gk_getR (pc := 139) 7 6 d_M_lookups_139 rfl (Nat.le_of_ble_eq_true rfl) tw_1651 fun x3 => ?_
  refine gk_iload_n (pc := 142) 1 d_M_lookups_142 rfl ?_
  refine gk_iconst (pc := 143) (1 : Int32) d_M_lookups_143 rfl ?_
  refine gk_iadd (pc := 144) d_M_lookups_144 ?_
  refine gk_iald (pc := 145) d_M_lookups_145 fun x4 => ?_
  refine gk_imul (pc := 146) d_M_lookups_146 ?_
  refine gk_iconst (pc := 147) (1 : Int32) d_M_lookups_147 rfl ?_
  refine gk_lload (pc := 148) 3 d_M_lookups_148 rfl ?_
  refine gk_lconst (pc := 150) (0 : Int64) d_M_lookups_150 rfl ?_
  refine gk_lcmp (pc := 151) d_M_lookups_151 ?_
  refine gk_if_ge (pc := 152) 159 d_M_lookups_152 rfl (fun _ => ?_) (fun _ => ?_)
  · refine gk_lload (pc := 159) 3 d_M_lookups_159 rfl ?_
    refine gk_lconst (pc := 161) (0 : Int64) d_M_lookups_161 rfl ?_
    refine gk_lcmp (pc := 162) d_M_lookups_162 ?_
    refine gk_if_le (pc := 163) 170 d_M_lookups_163 rfl (fun _ => ?_) (fun _ => ?_)
    · refine gk_iconst (pc := 170) (0 : Int32) d_M_lookups_170 rfl ?_
      refine gk_weak [0] (L' := [(0, va_rf v0)]) rfl ?_
      exact p_M_lookups_b171 d v0 v0 v4 ((16 : Int32) * (v2 + (1 : Int32))) (x2 * x4) (1 : Int32) (0 : Int32) h
    · refine gk_iconst (pc := 166) (1 : Int32) d_M_lookups_166 rfl ?_
      refine gk_goto (pc := 167) 171 d_M_lookups_167 rfl ?_
      refine gk_weak [0] (L' := [(0, va_rf v0)]) rfl ?_
      exact p_M_lookups_b171 d v0 v0 v4 ((16 : Int32) * (v2 + (1 : Int32))) (x2 * x4) (1 : Int32) (1 : Int32) h
  · refine gk_iconst (pc := 155) (-1 : Int32) d_M_lookups_155 rfl ?_
    refine gk_goto (pc := 156) 171 d_M_lookups_156 rfl ?_
    refine gk_weak [0] (L' := [(0, va_rf v0)]) rfl ?_
    exact p_M_lookups_b171 d v0 v0 v4 ((16 : Int32) * (v2 + (1 : Int32))) (x2 * x4) (1 : Int32) (-1 : Int32) h
theorem p_M_lookups_b80 (d : Nat)  (v0 : Option Nat) (v2 : Int32) (v4 : Int32) (s0 : Int64) (h : gk_H) : gk_P gw_V (d + 6) y_M_lookups b_M_lookups 8 none [] (f_M_lookups_b80  v0 v2 v4 s0 h) 80 [(0, va_rf v0), (2, .int v2), (4, .int v4)] [.long s0] h := by
  unfold f_M_lookups_b80
  refine gk_lstore (pc := 80) (L' := [(5, .long s0), (0, va_rf v0), (2, .int v2), (4, .int v4)]) d_M_lookups_80 (Nat.le_of_ble_eq_true rfl) rfl ?_
  refine gk_aload_n (pc := 82) 1 d_M_lookups_82 rfl ?_
  refine gk_getI (pc := 83) 7 11 d_M_lookups_83 rfl (Nat.le_of_ble_eq_true rfl) tw_1656 fun x1 => ?_
  refine gk_if_le (pc := 86) 90 d_M_lookups_86 rfl (fun _ => ?_) (fun _ => ?_)
  · refine gk_aload_n (pc := 90) 1 d_M_lookups_90 rfl ?_
    refine gk_getR (pc := 91) 7 5 d_M_lookups_91 rfl (Nat.le_of_ble_eq_true rfl) tw_1650 fun x2 => ?_
    refine gk_iload_n (pc := 94) 2 d_M_lookups_94 rfl ?_
    refine gk_iconst (pc := 95) (1 : Int32) d_M_lookups_95 rfl ?_
    refine gk_iadd (pc := 96) d_M_lookups_96 ?_
    refine gk_iald (pc := 97) d_M_lookups_97 fun x3 => ?_
    refine gk_iconst (pc := 98) (1 : Int32) d_M_lookups_98 rfl ?_
    refine gk_icmp_le (pc := 99) 121 d_M_lookups_99 rfl (fun _ => ?_) (fun _ => ?_)
    · refine gk_weak [1, 2, 3, 0] (L' := [(0, va_rf v0), (2, .int v2), (4, .int v4), (5, .long s0)]) rfl ?_
      exact p_M_lookups_b121 d v0 v2 v4 s0 h
    · refine gk_aload_n (pc := 102) 1 d_M_lookups_102 rfl ?_
      refine gk_getR (pc := 103) 7 6 d_M_lookups_103 rfl (Nat.le_of_ble_eq_true rfl) tw_1651 fun x4 => ?_
      refine gk_iload_n (pc := 106) 2 d_M_lookups_106 rfl ?_
      refine gk_iconst (pc := 107) (1 : Int32) d_M_lookups_107 rfl ?_
      refine gk_iadd (pc := 108) d_M_lookups_108 ?_
      refine gk_iald (pc := 109) d_M_lookups_109 fun x5 => ?_
      refine gk_iconst (pc := 110) (1 : Int32) d_M_lookups_110 rfl ?_
      refine gk_icmp_le (pc := 111) 121 d_M_lookups_111 rfl (fun _ => ?_) (fun _ => ?_)
      · refine gk_weak [1, 2, 3, 0] (L' := [(0, va_rf v0), (2, .int v2), (4, .int v4), (5, .long s0)]) rfl ?_
        exact p_M_lookups_b121 d v0 v2 v4 s0 h
      · refine gk_aload_n (pc := 114) 1 d_M_lookups_114 rfl ?_
        refine gk_bipush (pc := 115) (7 : Int32) d_M_lookups_115 rfl ?_
        refine gk_callV (pc := 117) (d := (d + 5)) (w' := gv_V) (as := [.int (7 : Int32)]) (n := 1) 7 d_M_lookups_117 rfl rfl rfl rfl (Nat.le_of_ble_eq_true rfl) tw_1805 tw_1807 tw_21 tw_99 cw_M_fail hy_M_fail (Nat.le_of_ble_eq_true rfl) (p_M_fail (d + 5) v0 (7 : Int32) h) fun _ h1 => ?_
        exact gk_vret (pc := 120) rfl d_M_lookups_120 rfl
  · exact gk_vret (pc := 89) rfl d_M_lookups_89 rfl
theorem p_M_lookups_b30 (d : Nat)  (s0 : Option Nat) (s1 : UInt64) (h : gk_H) : gk_P gw_V (d + 6) y_M_lookups b_M_lookups 8 none [] (f_M_lookups_b30  s0 s1 h) 30 [] [.double s1, va_rf s0] h := by
  unfold f_M_lookups_b30
  refine gk_callV (pc := 30) (d := (d + 5)) (w' := gv_V) (as := [.double s1]) (n := 1) 7 d_M_lookups_30 rfl rfl rfl rfl (Nat.le_of_ble_eq_true rfl) tw_1916 tw_1918 tw_38 tw_99 cw_M_answerNumber hy_M_answerNumber (Nat.le_of_ble_eq_true rfl) (p_M_answerNumber (d + 4) s0 s1 h) fun _ h1 => ?_
  refine gk_goto (pc := 33) 230 d_M_lookups_33 rfl ?_
  exact p_M_lookups_b230 d h1
theorem w_M_lookups (d : Nat) (a0 : Option Nat) (a1 : Int32) (a2 : Int32) (a3 : Int32) (h : gk_H) : gk_P gw_V (d + 6) y_M_lookups b_M_lookups 8 none [] (f_M_lookups a0 a1 a2 a3 h) 0 [(0, va_rf a0), (1, .int a1), (2, .int a2), (3, .int a3)] [] h := by
  unfold f_M_lookups
  refine gk_iload_n (pc := 0) 1 d_M_lookups_0 rfl ?_
  refine gk_bipush (pc := 1) (76 : Int32) d_M_lookups_1 rfl ?_
  refine gk_icmp_ge (pc := 3) 36 d_M_lookups_3 rfl (fun _ => ?_) (fun _ => ?_)
  · refine gk_iload_n (pc := 36) 1 d_M_lookups_36 rfl ?_
    refine gk_bipush (pc := 37) (76 : Int32) d_M_lookups_37 rfl ?_
    refine gk_icmp_ne (pc := 39) 51 d_M_lookups_39 rfl (fun _ => ?_) (fun _ => ?_)
    · refine gk_aload_n (pc := 42) 0 d_M_lookups_42 rfl ?_
      refine gk_iload_n (pc := 43) 2 d_M_lookups_43 rfl ?_
      refine gk_iload_n (pc := 44) 3 d_M_lookups_44 rfl ?_
      refine gk_callV (pc := 45) (d := (d + 5)) (w' := gv_V) (as := [.int a2, .int a3]) (n := 2) 7 d_M_lookups_45 rfl rfl rfl rfl (Nat.le_of_ble_eq_true rfl) tw_2112 tw_2114 tw_79 tw_99 cw_M_index hy_M_index (Nat.le_of_ble_eq_true rfl) (p_M_index d a0 a2 a3 h) fun _ h1 => ?_
      refine gk_goto (pc := 48) 230 d_M_lookups_48 rfl ?_
      refine gk_weak [] (L' := []) rfl ?_
      exact p_M_lookups_b230 d h1
    · refine gk_iload_n (pc := 51) 1 d_M_lookups_51 rfl ?_
      refine gk_bipush (pc := 52) (77 : Int32) d_M_lookups_52 rfl ?_
      refine gk_icmp_ne (pc := 54) 199 d_M_lookups_54 rfl (fun _ => ?_) (fun _ => ?_)
      · refine gk_aload_n (pc := 57) 0 d_M_lookups_57 rfl ?_
        refine gk_iload_n (pc := 58) 2 d_M_lookups_58 rfl ?_
        refine gk_callV (pc := 59) (d := (d + 5)) (w' := gv_I) (as := [.int a2]) (n := 1) 7 d_M_lookups_59 rfl rfl rfl rfl (Nat.le_of_ble_eq_true rfl) tw_1797 tw_1799 tw_19 tw_99 cw_M_wantAny hy_M_wantAny (Nat.le_of_ble_eq_true rfl) (p_M_wantAny (d + 3) a0 a2 h) fun x1 h2 => ?_
        refine gk_istore (pc := 62) (L' := [(4, .int x1), (0, va_rf a0), (1, .int a1), (2, .int a2), (3, .int a3)]) d_M_lookups_62 (Nat.le_of_ble_eq_true rfl) rfl ?_
        refine gk_iload_n (pc := 64) 4 d_M_lookups_64 rfl ?_
        refine gk_iconst (pc := 65) (3 : Int32) d_M_lookups_65 rfl ?_
        refine gk_icmp_ne (pc := 66) 79 d_M_lookups_66 rfl (fun _ => ?_) (fun _ => ?_)
        · refine gk_aload_n (pc := 69) 1 d_M_lookups_69 rfl ?_
          refine gk_iload_n (pc := 70) 3 d_M_lookups_70 rfl ?_
          refine gk_iconst (pc := 71) (2 : Int32) d_M_lookups_71 rfl ?_
          refine gk_iadd (pc := 72) d_M_lookups_72 ?_
          refine gk_callV (pc := 73) (d := (d + 5)) (w' := gv_J) (as := [.int (a2 + (2 : Int32))]) (n := 1) 7 d_M_lookups_73 rfl rfl rfl rfl (Nat.le_of_ble_eq_true rfl) tw_1954 tw_1956 tw_45 tw_99 cw_M_wantWhole hy_M_wantWhole (Nat.le_of_ble_eq_true rfl) (p_M_wantWhole (d + 1) a0 (a2 + (2 : Int32)) h2) fun x2 h3 => ?_
          refine gk_goto (pc := 76) 80 d_M_lookups_76 rfl ?_
          refine gk_weak [1, 3, 0] (L' := [(0, va_rf a0), (2, .int a2), (4, .int x1)]) rfl ?_
          exact p_M_lookups_b80 d a0 a2 x1 x2 h3
        · refine gk_lconst (pc := 79) (1 : Int64) d_M_lookups_79 rfl ?_
          refine gk_weak [1, 3, 0] (L' := [(0, va_rf a0), (2, .int a2), (4, .int x1)]) rfl ?_
          exact p_M_lookups_b80 d a0 a2 x1 (1 : Int64) h2
      · refine gk_iload_n (pc := 199) 1 d_M_lookups_199 rfl ?_
        refine gk_bipush (pc := 200) (80 : Int32) d_M_lookups_200 rfl ?_
        refine gk_icmp_ne (pc := 202) 213 d_M_lookups_202 rfl (fun _ => ?_) (fun _ => ?_)
        · refine gk_aload_n (pc := 205) 0 d_M_lookups_205 rfl ?_
          refine gk_iload_n (pc := 206) 2 d_M_lookups_206 rfl ?_
          refine gk_callV (pc := 207) (d := (d + 5)) (w' := gv_V) (as := [.int a2]) (n := 1) 7 d_M_lookups_207 rfl rfl rfl rfl (Nat.le_of_ble_eq_true rfl) tw_2124 tw_2126 tw_82 tw_99 cw_M_transpose hy_M_transpose (Nat.le_of_ble_eq_true rfl) (p_M_transpose (d + 4) a0 a2 h) fun _ h4 => ?_
          refine gk_goto (pc := 210) 230 d_M_lookups_210 rfl ?_
          refine gk_weak [] (L' := []) rfl ?_
          exact p_M_lookups_b230 d h4
        · refine gk_aload_n (pc := 213) 0 d_M_lookups_213 rfl ?_
          refine gk_iload_n (pc := 214) 1 d_M_lookups_214 rfl ?_
          refine gk_bipush (pc := 215) (78 : Int32) d_M_lookups_215 rfl ?_
          refine gk_icmp_ne (pc := 217) 224 d_M_lookups_217 rfl (fun _ => ?_) (fun _ => ?_)
          · refine gk_iconst (pc := 220) (1 : Int32) d_M_lookups_220 rfl ?_
            refine gk_goto (pc := 221) 225 d_M_lookups_221 rfl ?_
            refine gk_weak [2, 3] (L' := [(2, .int a2), (3, .int a3)]) rfl ?_
            exact p_M_lookups_b225 d a2 a3 a0 (1 : Int32) h
          · refine gk_iconst (pc := 224) (0 : Int32) d_M_lookups_224 rfl ?_
            refine gk_weak [2, 3] (L' := [(2, .int a2), (3, .int a3)]) rfl ?_
            exact p_M_lookups_b225 d a2 a3 a0 (0 : Int32) h
  · refine gk_aload_n (pc := 6) 0 d_M_lookups_6 rfl ?_
    refine gk_iload_n (pc := 7) 1 d_M_lookups_7 rfl ?_
    refine gk_bipush (pc := 8) (74 : Int32) d_M_lookups_8 rfl ?_
    refine gk_icmp_ne (pc := 10) 23 d_M_lookups_10 rfl (fun _ => ?_) (fun _ => ?_)
    · refine gk_aload_n (pc := 13) 0 d_M_lookups_13 rfl ?_
      refine gk_getR (pc := 14) 7 5 d_M_lookups_14 rfl (Nat.le_of_ble_eq_true rfl) tw_1650 fun x3 => ?_
      refine gk_iload_n (pc := 17) 2 d_M_lookups_17 rfl ?_
      refine gk_iald (pc := 18) d_M_lookups_18 fun x4 => ?_
      refine gk_i2d (pc := 19) d_M_lookups_19 ?_
      refine gk_goto (pc := 20) 30 d_M_lookups_20 rfl ?_
      refine gk_weak [] (L' := []) rfl ?_
      exact p_M_lookups_b30 d a0 (FP.i2d x4) h
    · refine gk_aload_n (pc := 23) 0 d_M_lookups_23 rfl ?_
      refine gk_getR (pc := 24) 7 6 d_M_lookups_24 rfl (Nat.le_of_ble_eq_true rfl) tw_1651 fun x5 => ?_
      refine gk_iload_n (pc := 27) 2 d_M_lookups_27 rfl ?_
      refine gk_iald (pc := 28) d_M_lookups_28 fun x6 => ?_
      refine gk_i2d (pc := 29) d_M_lookups_29 ?_
      refine gk_weak [] (L' := []) rfl ?_
      exact p_M_lookups_b30 d a0 (FP.i2d x6) h
theorem p_M_lookups (d : Nat) (a0 : Option Nat) (a1 : Int32) (a2 : Int32) (a3 : Int32) (h : gk_H) : ∀ r h1, f_M_lookups a0 a1 a2 a3 h = some (r, h1) → gk_M (d + 6) y_M_lookups b_M_lookups 8 none [va_rf a0, .int a1, .int a2, .int a3] h (.inl (gv_V r)) h1 :=
  fun r h1 e => gk_M_of2 (by decide +kernel) (by simp [lv_args, gk_cat_rf, gk_catI, gk_catJ, gk_catD, gv_V, gv_I, gv_J, gv_D, gv_R]) (by simp [lg_sl, gk_cat_rf, gk_catI, gk_catJ, gk_catD, gv_V, gv_I, gv_J, gv_D, gv_R]) (w_M_lookups d a0 a1 a2 a3 h r h1 e)
theorem d_M_timeOf_0 : decode b_M_timeOf 0 = .ok (.aload_n 0, 1) := by decide +kernel
theorem d_M_timeOf_1 : decode b_M_timeOf 1 = .ok (.getfield 62, 3) := by decide +kernel
theorem d_M_timeOf_4 : decode b_M_timeOf 4 = .ok (.ifCond .ne 15, 3) := by decide +kernel
theorem d_M_timeOf_7 : decode b_M_timeOf 7 = .ok (.dload_n 2, 1) := by decide +kernel
theorem d_M_timeOf_8 : decode b_M_timeOf 8 = .ok (.dconst 0, 1) := by decide +kernel
theorem d_M_timeOf_9 : decode b_M_timeOf 9 = .ok (.dcmp .g, 1) := by decide +kernel
theorem d_M_timeOf_10 : decode b_M_timeOf 10 = .ok (.ifCond .ge 9, 3) := by decide +kernel
theorem d_M_timeOf_13 : decode b_M_timeOf 13 = .ok (.aload_n 0, 1) := by decide +kernel
theorem d_M_timeOf_14 : decode b_M_timeOf 14 = .ok (.bipush 6, 2) := by decide +kernel
theorem d_M_timeOf_16 : decode b_M_timeOf 16 = .ok (.invokevirtual 58, 3) := by decide +kernel
theorem d_M_timeOf_19 : decode b_M_timeOf 19 = .ok (.aload_n 0, 1) := by decide +kernel
theorem d_M_timeOf_20 : decode b_M_timeOf 20 = .ok (.getfield 62, 3) := by decide +kernel
theorem d_M_timeOf_23 : decode b_M_timeOf 23 = .ok (.ifCond .le 4, 3) := by decide +kernel
theorem d_M_timeOf_26 : decode b_M_timeOf 26 = .ok (.return_, 1) := by decide +kernel
theorem d_M_timeOf_27 : decode b_M_timeOf 27 = .ok (.dload_n 2, 1) := by decide +kernel
theorem d_M_timeOf_28 : decode b_M_timeOf 28 = .ok (.dload_n 2, 1) := by decide +kernel
theorem d_M_timeOf_29 : decode b_M_timeOf 29 = .ok (.invokestatic 227, 3) := by decide +kernel
theorem d_M_timeOf_32 : decode b_M_timeOf 32 = .ok (.dsub, 1) := by decide +kernel
theorem d_M_timeOf_33 : decode b_M_timeOf 33 = .ok (.ldc2_w 471, 3) := by decide +kernel
theorem d_M_timeOf_36 : decode b_M_timeOf 36 = .ok (.dmul, 1) := by decide +kernel
theorem d_M_timeOf_37 : decode b_M_timeOf 37 = .ok (.ldc2_w 122, 3) := by decide +kernel
theorem d_M_timeOf_40 : decode b_M_timeOf 40 = .ok (.dadd, 1) := by decide +kernel
theorem d_M_timeOf_41 : decode b_M_timeOf 41 = .ok (.invokestatic 227, 3) := by decide +kernel
theorem d_M_timeOf_44 : decode b_M_timeOf 44 = .ok (.d2i, 1) := by decide +kernel
theorem d_M_timeOf_45 : decode b_M_timeOf 45 = .ok (.istore 4, 2) := by decide +kernel
theorem d_M_timeOf_47 : decode b_M_timeOf 47 = .ok (.iload 4, 2) := by decide +kernel
theorem d_M_timeOf_49 : decode b_M_timeOf 49 = .ok (.ldc_w 486, 3) := by decide +kernel
theorem d_M_timeOf_52 : decode b_M_timeOf 52 = .ok (.if_icmp .ne 7, 3) := by decide +kernel
theorem d_M_timeOf_55 : decode b_M_timeOf 55 = .ok (.iconst 0, 1) := by decide +kernel
theorem d_M_timeOf_56 : decode b_M_timeOf 56 = .ok (.goto 5, 3) := by decide +kernel
theorem d_M_timeOf_59 : decode b_M_timeOf 59 = .ok (.iload 4, 2) := by decide +kernel
theorem d_M_timeOf_61 : decode b_M_timeOf 61 = .ok (.istore 4, 2) := by decide +kernel
theorem d_M_timeOf_63 : decode b_M_timeOf 63 = .ok (.aload_n 0, 1) := by decide +kernel
theorem d_M_timeOf_64 : decode b_M_timeOf 64 = .ok (.iload_n 1, 1) := by decide +kernel
theorem d_M_timeOf_65 : decode b_M_timeOf 65 = .ok (.bipush 89, 2) := by decide +kernel
theorem d_M_timeOf_67 : decode b_M_timeOf 67 = .ok (.if_icmp .ne 13, 3) := by decide +kernel
theorem d_M_timeOf_70 : decode b_M_timeOf 70 = .ok (.iload 4, 2) := by decide +kernel
theorem d_M_timeOf_72 : decode b_M_timeOf 72 = .ok (.sipush 3600, 3) := by decide +kernel
theorem d_M_timeOf_75 : decode b_M_timeOf 75 = .ok (.idiv, 1) := by decide +kernel
theorem d_M_timeOf_76 : decode b_M_timeOf 76 = .ok (.i2d, 1) := by decide +kernel
theorem d_M_timeOf_77 : decode b_M_timeOf 77 = .ok (.goto 27, 3) := by decide +kernel
theorem d_M_timeOf_80 : decode b_M_timeOf 80 = .ok (.iload_n 1, 1) := by decide +kernel
theorem d_M_timeOf_81 : decode b_M_timeOf 81 = .ok (.bipush 90, 2) := by decide +kernel
theorem d_M_timeOf_83 : decode b_M_timeOf 83 = .ok (.if_icmp .ne 15, 3) := by decide +kernel
theorem d_M_timeOf_86 : decode b_M_timeOf 86 = .ok (.iload 4, 2) := by decide +kernel
theorem d_M_timeOf_88 : decode b_M_timeOf 88 = .ok (.bipush 60, 2) := by decide +kernel
theorem d_M_timeOf_90 : decode b_M_timeOf 90 = .ok (.idiv, 1) := by decide +kernel
theorem d_M_timeOf_91 : decode b_M_timeOf 91 = .ok (.bipush 60, 2) := by decide +kernel
theorem d_M_timeOf_93 : decode b_M_timeOf 93 = .ok (.irem, 1) := by decide +kernel
theorem d_M_timeOf_94 : decode b_M_timeOf 94 = .ok (.i2d, 1) := by decide +kernel
theorem d_M_timeOf_95 : decode b_M_timeOf 95 = .ok (.goto 9, 3) := by decide +kernel
theorem d_M_timeOf_98 : decode b_M_timeOf 98 = .ok (.iload 4, 2) := by decide +kernel
theorem d_M_timeOf_100 : decode b_M_timeOf 100 = .ok (.bipush 60, 2) := by decide +kernel
theorem d_M_timeOf_102 : decode b_M_timeOf 102 = .ok (.irem, 1) := by decide +kernel
theorem d_M_timeOf_103 : decode b_M_timeOf 103 = .ok (.i2d, 1) := by decide +kernel
theorem d_M_timeOf_104 : decode b_M_timeOf 104 = .ok (.invokevirtual 207, 3) := by decide +kernel
theorem d_M_timeOf_107 : decode b_M_timeOf 107 = .ok (.return_, 1) := by decide +kernel
theorem p_M_timeOf_b104 (d : Nat)  (s0 : Option Nat) (s1 : UInt64) (h : gk_H) : gk_P gw_V (d + 2) y_M_timeOf b_M_timeOf 5 none [] (f_M_timeOf_b104  s0 s1 h) 104 [] [.double s1, va_rf s0] h := by
  unfold f_M_timeOf_b104
  refine gk_callV (pc := 104) (d := (d + 1)) (w' := gv_V) (as := [.double s1]) (n := 1) 7 d_M_timeOf_104 rfl rfl rfl rfl (Nat.le_of_ble_eq_true rfl) tw_1916 tw_1918 tw_38 tw_99 cw_M_answerNumber hy_M_answerNumber (Nat.le_of_ble_eq_true rfl) (p_M_answerNumber d s0 s1 h) fun _ h1 => ?_
  exact gk_vret (pc := 107) rfl d_M_timeOf_107 rfl
theorem p_M_timeOf_b61 (d : Nat)  (v0 : Option Nat) (v1 : Int32) (s0 : Int32) (h : gk_H) : gk_P gw_V (d + 2) y_M_timeOf b_M_timeOf 5 none [] (f_M_timeOf_b61  v0 v1 s0 h) 61 [(0, va_rf v0), (1, .int v1)] [.int s0] h := by
  unfold f_M_timeOf_b61
  refine gk_istore (pc := 61) (L' := [(4, .int s0), (0, va_rf v0), (1, .int v1)]) d_M_timeOf_61 (Nat.le_of_ble_eq_true rfl) rfl ?_
  refine gk_aload_n (pc := 63) 1 d_M_timeOf_63 rfl ?_
  refine gk_iload_n (pc := 64) 2 d_M_timeOf_64 rfl ?_
  refine gk_bipush (pc := 65) (89 : Int32) d_M_timeOf_65 rfl ?_
  refine gk_icmp_ne (pc := 67) 80 d_M_timeOf_67 rfl (fun _ => ?_) (fun _ => ?_)
  · refine gk_iload (pc := 70) 0 d_M_timeOf_70 rfl ?_
    refine gk_sipush (pc := 72) (3600 : Int32) d_M_timeOf_72 rfl ?_
    refine gk_idiv (pc := 75) (by decide) d_M_timeOf_75 ?_
    refine gk_i2d (pc := 76) d_M_timeOf_76 ?_
    refine gk_goto (pc := 77) 104 d_M_timeOf_77 rfl ?_
    refine gk_weak [] (L' := []) rfl ?_
    exact p_M_timeOf_b104 d v0 (FP.i2d (s0 / (3600 : Int32))) h
  · refine gk_iload_n (pc := 80) 2 d_M_timeOf_80 rfl ?_
    refine gk_bipush (pc := 81) (90 : Int32) d_M_timeOf_81 rfl ?_
    refine gk_icmp_ne (pc := 83) 98 d_M_timeOf_83 rfl (fun _ => ?_) (fun _ => ?_)
    · refine gk_iload (pc := 86) 0 d_M_timeOf_86 rfl ?_
      refine gk_bipush (pc := 88) (60 : Int32) d_M_timeOf_88 rfl ?_
      refine gk_idiv (pc := 90) (by decide) d_M_timeOf_90 ?_
      refine gk_bipush (pc := 91) (60 : Int32) d_M_timeOf_91 rfl ?_
      refine gk_irem (pc := 93) (by decide) d_M_timeOf_93 ?_
      refine gk_i2d (pc := 94) d_M_timeOf_94 ?_
      refine gk_goto (pc := 95) 104 d_M_timeOf_95 rfl ?_
      refine gk_weak [] (L' := []) rfl ?_
      exact p_M_timeOf_b104 d v0 (FP.i2d ((s0 / (60 : Int32)) - (s0 / (60 : Int32)) / (60 : Int32) * (60 : Int32))) h
    · refine gk_iload (pc := 98) 0 d_M_timeOf_98 rfl ?_
      refine gk_bipush (pc := 100) (60 : Int32) d_M_timeOf_100 rfl ?_
      refine gk_irem (pc := 102) (by decide) d_M_timeOf_102 ?_
      refine gk_i2d (pc := 103) d_M_timeOf_103 ?_
      refine gk_weak [] (L' := []) rfl ?_
      exact p_M_timeOf_b104 d v0 (FP.i2d (s0 - s0 / (60 : Int32) * (60 : Int32))) h
theorem p_M_timeOf_b19 (d : Nat)  (v0 : Option Nat) (v1 : Int32) (v2 : UInt64) (h : gk_H) : gk_P gw_V (d + 2) y_M_timeOf b_M_timeOf 5 none [] (f_M_timeOf_b19  v0 v1 v2 h) 19 [(0, va_rf v0), (1, .int v1), (2, .double v2)] [] h := by
  unfold f_M_timeOf_b19
  refine gk_aload_n (pc := 19) 0 d_M_timeOf_19 rfl ?_
  refine gk_getI (pc := 20) 7 11 d_M_timeOf_20 rfl (Nat.le_of_ble_eq_true rfl) tw_1656 fun x1 => ?_
  refine gk_if_le (pc := 23) 27 d_M_timeOf_23 rfl (fun _ => ?_) (fun _ => ?_)
  · refine gk_dload_n (pc := 27) 2 d_M_timeOf_27 rfl ?_
    refine gk_dload_n (pc := 28) 2 d_M_timeOf_28 rfl ?_
    refine gk_callS (pc := 29) (d := (d + 1)) (w' := gv_D) (as := [.double v2]) (n := 1) d_M_timeOf_29 rfl rfl (Nat.le_of_ble_eq_true rfl) tw_2027 tw_2028 tw_99 cw_M_floor hy_M_floor (Nat.le_of_ble_eq_true rfl) (p_M_floor (d + 1) v2 h) fun x2 h1 => ?_
    refine gk_dsubN (pc := 32) d_M_timeOf_32 fun x3 => ?_
    refine gk_ldc2d (pc := 33) tw_2144 d_M_timeOf_33 ?_
    refine gk_dmulN (pc := 36) d_M_timeOf_36 fun x4 => ?_
    refine gk_ldc2d (pc := 37) tw_1851 d_M_timeOf_37 ?_
    refine gk_daddN (pc := 40) d_M_timeOf_40 fun x5 => ?_
    refine gk_callS (pc := 41) (d := (d + 1)) (w' := gv_D) (as := [.double x5]) (n := 1) d_M_timeOf_41 rfl rfl (Nat.le_of_ble_eq_true rfl) tw_2027 tw_2028 tw_99 cw_M_floor hy_M_floor (Nat.le_of_ble_eq_true rfl) (p_M_floor (d + 1) x5 h1) fun x6 h2 => ?_
    refine gk_d2i (pc := 44) d_M_timeOf_44 ?_
    refine gk_topI (pc := 45) fun x7 => ?_
    refine gk_istore (pc := 45) (L' := [(4, .int x7), (0, va_rf v0), (1, .int v1), (2, .double v2)]) d_M_timeOf_45 (Nat.le_of_ble_eq_true rfl) rfl ?_
    refine gk_iload (pc := 47) 0 d_M_timeOf_47 rfl ?_
    refine gk_ldcw (pc := 49) tw_2168 d_M_timeOf_49 ?_
    refine gk_icmp_ne (pc := 52) 59 d_M_timeOf_52 rfl (fun _ => ?_) (fun _ => ?_)
    · refine gk_iconst (pc := 55) (0 : Int32) d_M_timeOf_55 rfl ?_
      refine gk_goto (pc := 56) 61 d_M_timeOf_56 rfl ?_
      refine gk_weak [1, 2] (L' := [(0, va_rf v0), (1, .int v1)]) rfl ?_
      exact p_M_timeOf_b61 d v0 v1 (0 : Int32) h2
    · refine gk_iload (pc := 59) 0 d_M_timeOf_59 rfl ?_
      refine gk_weak [1, 2] (L' := [(0, va_rf v0), (1, .int v1)]) rfl ?_
      exact p_M_timeOf_b61 d v0 v1 x7 h2
  · exact gk_vret (pc := 26) rfl d_M_timeOf_26 rfl
theorem w_M_timeOf (d : Nat) (a0 : Option Nat) (a1 : Int32) (a2 : UInt64) (h : gk_H) : gk_P gw_V (d + 2) y_M_timeOf b_M_timeOf 5 none [] (f_M_timeOf a0 a1 a2 h) 0 [(0, va_rf a0), (1, .int a1), (2, .double a2)] [] h := by
  unfold f_M_timeOf
  refine gk_aload_n (pc := 0) 0 d_M_timeOf_0 rfl ?_
  refine gk_getI (pc := 1) 7 11 d_M_timeOf_1 rfl (Nat.le_of_ble_eq_true rfl) tw_1656 fun x1 => ?_
  refine gk_if_ne (pc := 4) 19 d_M_timeOf_4 rfl (fun _ => ?_) (fun _ => ?_)
  · refine gk_dload_n (pc := 7) 2 d_M_timeOf_7 rfl ?_
    refine gk_dconst0 (pc := 8) d_M_timeOf_8 ?_
    refine gk_dcmp (pc := 9) d_M_timeOf_9 ?_
    refine gk_if_ge (pc := 10) 19 d_M_timeOf_10 rfl (fun _ => ?_) (fun _ => ?_)
    · exact p_M_timeOf_b19 d a0 a1 a2 h
    · refine gk_aload_n (pc := 13) 0 d_M_timeOf_13 rfl ?_
      refine gk_bipush (pc := 14) (6 : Int32) d_M_timeOf_14 rfl ?_
      refine gk_callV (pc := 16) (d := (d + 1)) (w' := gv_V) (as := [.int (6 : Int32)]) (n := 1) 7 d_M_timeOf_16 rfl rfl rfl rfl (Nat.le_of_ble_eq_true rfl) tw_1805 tw_1807 tw_21 tw_99 cw_M_fail hy_M_fail (Nat.le_of_ble_eq_true rfl) (p_M_fail (d + 1) a0 (6 : Int32) h) fun _ h1 => ?_
      exact p_M_timeOf_b19 d a0 a1 a2 h1
  · exact p_M_timeOf_b19 d a0 a1 a2 h
theorem p_M_timeOf (d : Nat) (a0 : Option Nat) (a1 : Int32) (a2 : UInt64) (h : gk_H) : ∀ r h1, f_M_timeOf a0 a1 a2 h = some (r, h1) → gk_M (d + 2) y_M_timeOf b_M_timeOf 5 none [va_rf a0, .int a1, .double a2] h (.inl (gv_V r)) h1 :=
  fun r h1 e => gk_M_of2 (by decide +kernel) (by simp [lv_args, gk_cat_rf, gk_catI, gk_catJ, gk_catD, gv_V, gv_I, gv_J, gv_D, gv_R]) (by simp [lg_sl, gk_cat_rf, gk_catI, gk_catJ, gk_catD, gv_V, gv_I, gv_J, gv_D, gv_R]) (w_M_timeOf d a0 a1 a2 h r h1 e)
theorem d_M_isLeap_0 : decode b_M_isLeap 0 = .ok (.iload_n 0, 1) := by decide +kernel
theorem d_M_isLeap_1 : decode b_M_isLeap 1 = .ok (.iconst 4, 1) := by decide +kernel
theorem d_M_isLeap_2 : decode b_M_isLeap 2 = .ok (.irem, 1) := by decide +kernel
theorem d_M_isLeap_3 : decode b_M_isLeap 3 = .ok (.ifCond .ne 10, 3) := by decide +kernel
theorem d_M_isLeap_6 : decode b_M_isLeap 6 = .ok (.iload_n 0, 1) := by decide +kernel
theorem d_M_isLeap_7 : decode b_M_isLeap 7 = .ok (.bipush 100, 2) := by decide +kernel
theorem d_M_isLeap_9 : decode b_M_isLeap 9 = .ok (.irem, 1) := by decide +kernel
theorem d_M_isLeap_10 : decode b_M_isLeap 10 = .ok (.ifCond .ne 18, 3) := by decide +kernel
theorem d_M_isLeap_13 : decode b_M_isLeap 13 = .ok (.iload_n 0, 1) := by decide +kernel
theorem d_M_isLeap_14 : decode b_M_isLeap 14 = .ok (.sipush 400, 3) := by decide +kernel
theorem d_M_isLeap_17 : decode b_M_isLeap 17 = .ok (.irem, 1) := by decide +kernel
theorem d_M_isLeap_18 : decode b_M_isLeap 18 = .ok (.ifCond .eq 10, 3) := by decide +kernel
theorem d_M_isLeap_21 : decode b_M_isLeap 21 = .ok (.iload_n 0, 1) := by decide +kernel
theorem d_M_isLeap_22 : decode b_M_isLeap 22 = .ok (.sipush 1900, 3) := by decide +kernel
theorem d_M_isLeap_25 : decode b_M_isLeap 25 = .ok (.if_icmp .ne 7, 3) := by decide +kernel
theorem d_M_isLeap_28 : decode b_M_isLeap 28 = .ok (.iconst 1, 1) := by decide +kernel
theorem d_M_isLeap_29 : decode b_M_isLeap 29 = .ok (.goto 4, 3) := by decide +kernel
theorem d_M_isLeap_32 : decode b_M_isLeap 32 = .ok (.iconst 0, 1) := by decide +kernel
theorem d_M_isLeap_33 : decode b_M_isLeap 33 = .ok (.ireturn, 1) := by decide +kernel
theorem p_M_isLeap_b33 (d : Nat)  (s0 : Int32) (h : gk_H) : gk_P gw_I d y_M_isLeap b_M_isLeap 1 (some .boolean) [] (f_M_isLeap_b33  s0 h) 33 [] [.int s0] h := by
  unfold f_M_isLeap_b33
  exact gk_zret (pc := 33) rfl d_M_isLeap_33 rfl
theorem p_M_isLeap_b28 (d : Nat)   (h : gk_H) : gk_P gw_I d y_M_isLeap b_M_isLeap 1 (some .boolean) [] (f_M_isLeap_b28   h) 28 [] [] h := by
  unfold f_M_isLeap_b28
  refine gk_iconst (pc := 28) (1 : Int32) d_M_isLeap_28 rfl ?_
  refine gk_goto (pc := 29) 33 d_M_isLeap_29 rfl ?_
  exact p_M_isLeap_b33 d (1 : Int32) h
theorem p_M_isLeap_b13 (d : Nat)  (v0 : Int32) (h : gk_H) : gk_P gw_I d y_M_isLeap b_M_isLeap 1 (some .boolean) [] (f_M_isLeap_b13  v0 h) 13 [(0, .int v0)] [] h := by
  unfold f_M_isLeap_b13
  refine gk_iload_n (pc := 13) 0 d_M_isLeap_13 rfl ?_
  refine gk_sipush (pc := 14) (400 : Int32) d_M_isLeap_14 rfl ?_
  refine gk_irem (pc := 17) (by decide) d_M_isLeap_17 ?_
  refine gk_if_eq (pc := 18) 28 d_M_isLeap_18 rfl (fun _ => ?_) (fun _ => ?_)
  · refine gk_weak [] (L' := []) rfl ?_
    exact p_M_isLeap_b28 d h
  · refine gk_iload_n (pc := 21) 0 d_M_isLeap_21 rfl ?_
    refine gk_sipush (pc := 22) (1900 : Int32) d_M_isLeap_22 rfl ?_
    refine gk_icmp_ne (pc := 25) 32 d_M_isLeap_25 rfl (fun _ => ?_) (fun _ => ?_)
    · refine gk_weak [] (L' := []) rfl ?_
      exact p_M_isLeap_b28 d h
    · refine gk_iconst (pc := 32) (0 : Int32) d_M_isLeap_32 rfl ?_
      refine gk_weak [] (L' := []) rfl ?_
      exact p_M_isLeap_b33 d (0 : Int32) h
theorem w_M_isLeap (d : Nat) (a0 : Int32) (h : gk_H) : gk_P gw_I d y_M_isLeap b_M_isLeap 1 (some .boolean) [] (f_M_isLeap a0 h) 0 [(0, .int a0)] [] h := by
  unfold f_M_isLeap
  refine gk_iload_n (pc := 0) 0 d_M_isLeap_0 rfl ?_
  refine gk_iconst (pc := 1) (4 : Int32) d_M_isLeap_1 rfl ?_
  refine gk_irem (pc := 2) (by decide) d_M_isLeap_2 ?_
  refine gk_if_ne (pc := 3) 13 d_M_isLeap_3 rfl (fun _ => ?_) (fun _ => ?_)
  · refine gk_iload_n (pc := 6) 0 d_M_isLeap_6 rfl ?_
    refine gk_bipush (pc := 7) (100 : Int32) d_M_isLeap_7 rfl ?_
    refine gk_irem (pc := 9) (by decide) d_M_isLeap_9 ?_
    refine gk_if_ne (pc := 10) 28 d_M_isLeap_10 rfl (fun _ => ?_) (fun _ => ?_)
    · exact p_M_isLeap_b13 d a0 h
    · refine gk_weak [] (L' := []) rfl ?_
      exact p_M_isLeap_b28 d h
  · exact p_M_isLeap_b13 d a0 h
theorem p_M_isLeap (d : Nat) (a0 : Int32) (h : gk_H) : ∀ r h1, f_M_isLeap a0 h = some (r, h1) → gk_M d y_M_isLeap b_M_isLeap 1 (some .boolean) [.int a0] h (.inl (gv_I r)) h1 :=
  fun r h1 e => gk_M_of2 (by decide +kernel) (by simp [lv_args, gk_cat_rf, gk_catI, gk_catJ, gk_catD, gv_V, gv_I, gv_J, gv_D, gv_R]) (by simp [lg_sl, gk_cat_rf, gk_catI, gk_catJ, gk_catD, gv_V, gv_I, gv_J, gv_D, gv_R]) (w_M_isLeap d a0 h r h1 e)
theorem d_M_monthLong_0 : decode b_M_monthLong 0 = .ok (.iload_n 1, 1) := by decide +kernel
theorem d_M_monthLong_1 : decode b_M_monthLong 1 = .ok (.iconst 2, 1) := by decide +kernel
theorem d_M_monthLong_2 : decode b_M_monthLong 2 = .ok (.if_icmp .ne 20, 3) := by decide +kernel
theorem d_M_monthLong_5 : decode b_M_monthLong 5 = .ok (.iload_n 0, 1) := by decide +kernel
theorem d_M_monthLong_6 : decode b_M_monthLong 6 = .ok (.invokestatic 427, 3) := by decide +kernel
theorem d_M_monthLong_9 : decode b_M_monthLong 9 = .ok (.ifCond .eq 8, 3) := by decide +kernel
theorem d_M_monthLong_12 : decode b_M_monthLong 12 = .ok (.bipush 29, 2) := by decide +kernel
theorem d_M_monthLong_14 : decode b_M_monthLong 14 = .ok (.goto 38, 3) := by decide +kernel
theorem d_M_monthLong_17 : decode b_M_monthLong 17 = .ok (.bipush 28, 2) := by decide +kernel
theorem d_M_monthLong_19 : decode b_M_monthLong 19 = .ok (.goto 33, 3) := by decide +kernel
theorem d_M_monthLong_22 : decode b_M_monthLong 22 = .ok (.iload_n 1, 1) := by decide +kernel
theorem d_M_monthLong_23 : decode b_M_monthLong 23 = .ok (.iconst 4, 1) := by decide +kernel
theorem d_M_monthLong_24 : decode b_M_monthLong 24 = .ok (.if_icmp .eq 21, 3) := by decide +kernel
theorem d_M_monthLong_27 : decode b_M_monthLong 27 = .ok (.iload_n 1, 1) := by decide +kernel
theorem d_M_monthLong_28 : decode b_M_monthLong 28 = .ok (.bipush 6, 2) := by decide +kernel
theorem d_M_monthLong_30 : decode b_M_monthLong 30 = .ok (.if_icmp .eq 15, 3) := by decide +kernel
theorem d_M_monthLong_33 : decode b_M_monthLong 33 = .ok (.iload_n 1, 1) := by decide +kernel
theorem d_M_monthLong_34 : decode b_M_monthLong 34 = .ok (.bipush 9, 2) := by decide +kernel
theorem d_M_monthLong_36 : decode b_M_monthLong 36 = .ok (.if_icmp .eq 9, 3) := by decide +kernel
theorem d_M_monthLong_39 : decode b_M_monthLong 39 = .ok (.iload_n 1, 1) := by decide +kernel
theorem d_M_monthLong_40 : decode b_M_monthLong 40 = .ok (.bipush 11, 2) := by decide +kernel
theorem d_M_monthLong_42 : decode b_M_monthLong 42 = .ok (.if_icmp .ne 8, 3) := by decide +kernel
theorem d_M_monthLong_45 : decode b_M_monthLong 45 = .ok (.bipush 30, 2) := by decide +kernel
theorem d_M_monthLong_47 : decode b_M_monthLong 47 = .ok (.goto 5, 3) := by decide +kernel
theorem d_M_monthLong_50 : decode b_M_monthLong 50 = .ok (.bipush 31, 2) := by decide +kernel
theorem d_M_monthLong_52 : decode b_M_monthLong 52 = .ok (.ireturn, 1) := by decide +kernel
theorem p_M_monthLong_b52 (d : Nat)  (s0 : Int32) (h : gk_H) : gk_P gw_I (d + 1) y_M_monthLong b_M_monthLong 2 (some .int) [] (f_M_monthLong_b52  s0 h) 52 [] [.int s0] h := by
  unfold f_M_monthLong_b52
  exact gk_iret (pc := 52) rfl d_M_monthLong_52 rfl
theorem p_M_monthLong_b45 (d : Nat)   (h : gk_H) : gk_P gw_I (d + 1) y_M_monthLong b_M_monthLong 2 (some .int) [] (f_M_monthLong_b45   h) 45 [] [] h := by
  unfold f_M_monthLong_b45
  refine gk_bipush (pc := 45) (30 : Int32) d_M_monthLong_45 rfl ?_
  refine gk_goto (pc := 47) 52 d_M_monthLong_47 rfl ?_
  exact p_M_monthLong_b52 d (30 : Int32) h
theorem w_M_monthLong (d : Nat) (a0 : Int32) (a1 : Int32) (h : gk_H) : gk_P gw_I (d + 1) y_M_monthLong b_M_monthLong 2 (some .int) [] (f_M_monthLong a0 a1 h) 0 [(0, .int a0), (1, .int a1)] [] h := by
  unfold f_M_monthLong
  refine gk_iload_n (pc := 0) 1 d_M_monthLong_0 rfl ?_
  refine gk_iconst (pc := 1) (2 : Int32) d_M_monthLong_1 rfl ?_
  refine gk_icmp_ne (pc := 2) 22 d_M_monthLong_2 rfl (fun _ => ?_) (fun _ => ?_)
  · refine gk_iload_n (pc := 5) 0 d_M_monthLong_5 rfl ?_
    refine gk_callS (pc := 6) (d := d) (w' := gv_I) (as := [.int a0]) (n := 1) d_M_monthLong_6 rfl rfl (Nat.le_of_ble_eq_true rfl) tw_2153 tw_2154 tw_99 cw_M_isLeap hy_M_isLeap (Nat.le_of_ble_eq_true rfl) (p_M_isLeap d a0 h) fun x1 h1 => ?_
    refine gk_if_eq (pc := 9) 17 d_M_monthLong_9 rfl (fun _ => ?_) (fun _ => ?_)
    · refine gk_bipush (pc := 17) (28 : Int32) d_M_monthLong_17 rfl ?_
      refine gk_goto (pc := 19) 52 d_M_monthLong_19 rfl ?_
      refine gk_weak [] (L' := []) rfl ?_
      exact p_M_monthLong_b52 d (28 : Int32) h1
    · refine gk_bipush (pc := 12) (29 : Int32) d_M_monthLong_12 rfl ?_
      refine gk_goto (pc := 14) 52 d_M_monthLong_14 rfl ?_
      refine gk_weak [] (L' := []) rfl ?_
      exact p_M_monthLong_b52 d (29 : Int32) h1
  · refine gk_iload_n (pc := 22) 1 d_M_monthLong_22 rfl ?_
    refine gk_iconst (pc := 23) (4 : Int32) d_M_monthLong_23 rfl ?_
    refine gk_icmp_eq (pc := 24) 45 d_M_monthLong_24 rfl (fun _ => ?_) (fun _ => ?_)
    · refine gk_weak [] (L' := []) rfl ?_
      exact p_M_monthLong_b45 d h
    · refine gk_iload_n (pc := 27) 1 d_M_monthLong_27 rfl ?_
      refine gk_bipush (pc := 28) (6 : Int32) d_M_monthLong_28 rfl ?_
      refine gk_icmp_eq (pc := 30) 45 d_M_monthLong_30 rfl (fun _ => ?_) (fun _ => ?_)
      · refine gk_weak [] (L' := []) rfl ?_
        exact p_M_monthLong_b45 d h
      · refine gk_iload_n (pc := 33) 1 d_M_monthLong_33 rfl ?_
        refine gk_bipush (pc := 34) (9 : Int32) d_M_monthLong_34 rfl ?_
        refine gk_icmp_eq (pc := 36) 45 d_M_monthLong_36 rfl (fun _ => ?_) (fun _ => ?_)
        · refine gk_weak [] (L' := []) rfl ?_
          exact p_M_monthLong_b45 d h
        · refine gk_iload_n (pc := 39) 1 d_M_monthLong_39 rfl ?_
          refine gk_bipush (pc := 40) (11 : Int32) d_M_monthLong_40 rfl ?_
          refine gk_icmp_ne (pc := 42) 50 d_M_monthLong_42 rfl (fun _ => ?_) (fun _ => ?_)
          · refine gk_weak [] (L' := []) rfl ?_
            exact p_M_monthLong_b45 d h
          · refine gk_bipush (pc := 50) (31 : Int32) d_M_monthLong_50 rfl ?_
            refine gk_weak [] (L' := []) rfl ?_
            exact p_M_monthLong_b52 d (31 : Int32) h
theorem p_M_monthLong (d : Nat) (a0 : Int32) (a1 : Int32) (h : gk_H) : ∀ r h1, f_M_monthLong a0 a1 h = some (r, h1) → gk_M (d + 1) y_M_monthLong b_M_monthLong 2 (some .int) [.int a0, .int a1] h (.inl (gv_I r)) h1 :=
  fun r h1 e => gk_M_of2 (by decide +kernel) (by simp [lv_args, gk_cat_rf, gk_catI, gk_catJ, gk_catD, gv_V, gv_I, gv_J, gv_D, gv_R]) (by simp [lg_sl, gk_cat_rf, gk_catI, gk_catJ, gk_catD, gv_V, gv_I, gv_J, gv_D, gv_R]) (w_M_monthLong d a0 a1 h r h1 e)
theorem d_M_findDate_0 : decode b_M_findDate 0 = .ok (.aload_n 0, 1) := by decide +kernel
theorem d_M_findDate_1 : decode b_M_findDate 1 = .ok (.sipush 1900, 3) := by decide +kernel
theorem d_M_findDate_4 : decode b_M_findDate 4 = .ok (.putfield 433, 3) := by decide +kernel
theorem d_M_findDate_7 : decode b_M_findDate 7 = .ok (.aload_n 0, 1) := by decide +kernel
theorem d_M_findDate_8 : decode b_M_findDate 8 = .ok (.iconst 1, 1) := by decide +kernel
theorem d_M_findDate_9 : decode b_M_findDate 9 = .ok (.putfield 436, 3) := by decide +kernel
theorem d_M_findDate_12 : decode b_M_findDate 12 = .ok (.iload_n 1, 1) := by decide +kernel
theorem d_M_findDate_13 : decode b_M_findDate 13 = .ok (.istore_n 2, 1) := by decide +kernel
theorem d_M_findDate_14 : decode b_M_findDate 14 = .ok (.iload_n 2, 1) := by decide +kernel
theorem d_M_findDate_15 : decode b_M_findDate 15 = .ok (.aload_n 0, 1) := by decide +kernel
theorem d_M_findDate_16 : decode b_M_findDate 16 = .ok (.getfield 433, 3) := by decide +kernel
theorem d_M_findDate_19 : decode b_M_findDate 19 = .ok (.invokestatic 427, 3) := by decide +kernel
theorem d_M_findDate_22 : decode b_M_findDate 22 = .ok (.ifCond .eq 9, 3) := by decide +kernel
theorem d_M_findDate_25 : decode b_M_findDate 25 = .ok (.sipush 366, 3) := by decide +kernel
theorem d_M_findDate_28 : decode b_M_findDate 28 = .ok (.goto 6, 3) := by decide +kernel
theorem d_M_findDate_31 : decode b_M_findDate 31 = .ok (.sipush 365, 3) := by decide +kernel
theorem d_M_findDate_34 : decode b_M_findDate 34 = .ok (.if_icmp .le 38, 3) := by decide +kernel
theorem d_M_findDate_37 : decode b_M_findDate 37 = .ok (.iload_n 2, 1) := by decide +kernel
theorem d_M_findDate_38 : decode b_M_findDate 38 = .ok (.aload_n 0, 1) := by decide +kernel
theorem d_M_findDate_39 : decode b_M_findDate 39 = .ok (.getfield 433, 3) := by decide +kernel
theorem d_M_findDate_42 : decode b_M_findDate 42 = .ok (.invokestatic 427, 3) := by decide +kernel
theorem d_M_findDate_45 : decode b_M_findDate 45 = .ok (.ifCond .eq 9, 3) := by decide +kernel
theorem d_M_findDate_48 : decode b_M_findDate 48 = .ok (.sipush 366, 3) := by decide +kernel
theorem d_M_findDate_51 : decode b_M_findDate 51 = .ok (.goto 6, 3) := by decide +kernel
theorem d_M_findDate_54 : decode b_M_findDate 54 = .ok (.sipush 365, 3) := by decide +kernel
theorem d_M_findDate_57 : decode b_M_findDate 57 = .ok (.isub, 1) := by decide +kernel
theorem d_M_findDate_58 : decode b_M_findDate 58 = .ok (.istore_n 2, 1) := by decide +kernel
theorem d_M_findDate_59 : decode b_M_findDate 59 = .ok (.aload_n 0, 1) := by decide +kernel
theorem d_M_findDate_60 : decode b_M_findDate 60 = .ok (.dup, 1) := by decide +kernel
theorem d_M_findDate_61 : decode b_M_findDate 61 = .ok (.getfield 433, 3) := by decide +kernel
theorem d_M_findDate_64 : decode b_M_findDate 64 = .ok (.iconst 1, 1) := by decide +kernel
theorem d_M_findDate_65 : decode b_M_findDate 65 = .ok (.iadd, 1) := by decide +kernel
theorem d_M_findDate_66 : decode b_M_findDate 66 = .ok (.putfield 433, 3) := by decide +kernel
theorem d_M_findDate_69 : decode b_M_findDate 69 = .ok (.goto (-55), 3) := by decide +kernel
theorem d_M_findDate_72 : decode b_M_findDate 72 = .ok (.iload_n 2, 1) := by decide +kernel
theorem d_M_findDate_73 : decode b_M_findDate 73 = .ok (.aload_n 0, 1) := by decide +kernel
theorem d_M_findDate_74 : decode b_M_findDate 74 = .ok (.getfield 433, 3) := by decide +kernel
theorem d_M_findDate_77 : decode b_M_findDate 77 = .ok (.aload_n 0, 1) := by decide +kernel
theorem d_M_findDate_78 : decode b_M_findDate 78 = .ok (.getfield 436, 3) := by decide +kernel
theorem d_M_findDate_81 : decode b_M_findDate 81 = .ok (.invokestatic 430, 3) := by decide +kernel
theorem d_M_findDate_84 : decode b_M_findDate 84 = .ok (.if_icmp .le 30, 3) := by decide +kernel
theorem d_M_findDate_87 : decode b_M_findDate 87 = .ok (.iload_n 2, 1) := by decide +kernel
theorem d_M_findDate_88 : decode b_M_findDate 88 = .ok (.aload_n 0, 1) := by decide +kernel
theorem d_M_findDate_89 : decode b_M_findDate 89 = .ok (.getfield 433, 3) := by decide +kernel
theorem d_M_findDate_92 : decode b_M_findDate 92 = .ok (.aload_n 0, 1) := by decide +kernel
theorem d_M_findDate_93 : decode b_M_findDate 93 = .ok (.getfield 436, 3) := by decide +kernel
theorem d_M_findDate_96 : decode b_M_findDate 96 = .ok (.invokestatic 430, 3) := by decide +kernel
theorem d_M_findDate_99 : decode b_M_findDate 99 = .ok (.isub, 1) := by decide +kernel
theorem d_M_findDate_100 : decode b_M_findDate 100 = .ok (.istore_n 2, 1) := by decide +kernel
theorem d_M_findDate_101 : decode b_M_findDate 101 = .ok (.aload_n 0, 1) := by decide +kernel
theorem d_M_findDate_102 : decode b_M_findDate 102 = .ok (.dup, 1) := by decide +kernel
theorem d_M_findDate_103 : decode b_M_findDate 103 = .ok (.getfield 436, 3) := by decide +kernel
theorem d_M_findDate_106 : decode b_M_findDate 106 = .ok (.iconst 1, 1) := by decide +kernel
theorem d_M_findDate_107 : decode b_M_findDate 107 = .ok (.iadd, 1) := by decide +kernel
theorem d_M_findDate_108 : decode b_M_findDate 108 = .ok (.putfield 436, 3) := by decide +kernel
theorem d_M_findDate_111 : decode b_M_findDate 111 = .ok (.goto (-39), 3) := by decide +kernel
theorem d_M_findDate_114 : decode b_M_findDate 114 = .ok (.aload_n 0, 1) := by decide +kernel
theorem d_M_findDate_115 : decode b_M_findDate 115 = .ok (.iload_n 2, 1) := by decide +kernel
theorem d_M_findDate_116 : decode b_M_findDate 116 = .ok (.putfield 439, 3) := by decide +kernel
theorem d_M_findDate_119 : decode b_M_findDate 119 = .ok (.return_, 1) := by decide +kernel
theorem p_M_findDate_b72 (d : Nat)  : ∀ (fu : Nat) (v0 : Option Nat) (v2 : Int32) (h : gk_H), gk_P gw_V (d + 2) y_M_findDate b_M_findDate 3 none [] (f_M_findDate_b72  fu v0 v2 h) 72 [(0, va_rf v0), (2, .int v2)] [] h := by
  intro fu
  induction fu with
  | zero => intros; exact gk_none
  | succ fu q72 =>
    intro v0 v2 h
    rw [f_M_findDate_b72]
    refine gk_iload_n (pc := 72) 1 d_M_findDate_72 rfl ?_
    refine gk_aload_n (pc := 73) 0 d_M_findDate_73 rfl ?_
    refine gk_getI (pc := 74) 7 22 d_M_findDate_74 rfl (Nat.le_of_ble_eq_true rfl) tw_1667 fun x1 => ?_
    refine gk_aload_n (pc := 77) 0 d_M_findDate_77 rfl ?_
    refine gk_getI (pc := 78) 7 23 d_M_findDate_78 rfl (Nat.le_of_ble_eq_true rfl) tw_1668 fun x2 => ?_
    refine gk_callS (pc := 81) (d := (d + 1)) (w' := gv_I) (as := [.int x1, .int x2]) (n := 2) d_M_findDate_81 rfl rfl (Nat.le_of_ble_eq_true rfl) tw_2156 tw_2157 tw_99 cw_M_monthLong hy_M_monthLong (Nat.le_of_ble_eq_true rfl) (p_M_monthLong d x1 x2 h) fun x3 h1 => ?_
    refine gk_icmp_le (pc := 84) 114 d_M_findDate_84 rfl (fun _ => ?_) (fun _ => ?_)
    · refine gk_aload_n (pc := 114) 0 d_M_findDate_114 rfl ?_
      refine gk_iload_n (pc := 115) 1 d_M_findDate_115 rfl ?_
      refine gk_putfield (pc := 116) 7 24 d_M_findDate_116 rfl (Nat.le_of_ble_eq_true rfl) tw_1669 (Or.inl rfl) fun h2 => ?_
      exact gk_vret (pc := 119) rfl d_M_findDate_119 rfl
    · refine gk_iload_n (pc := 87) 1 d_M_findDate_87 rfl ?_
      refine gk_aload_n (pc := 88) 0 d_M_findDate_88 rfl ?_
      refine gk_getI (pc := 89) 7 22 d_M_findDate_89 rfl (Nat.le_of_ble_eq_true rfl) tw_1667 fun x4 => ?_
      refine gk_aload_n (pc := 92) 0 d_M_findDate_92 rfl ?_
      refine gk_getI (pc := 93) 7 23 d_M_findDate_93 rfl (Nat.le_of_ble_eq_true rfl) tw_1668 fun x5 => ?_
      refine gk_callS (pc := 96) (d := (d + 1)) (w' := gv_I) (as := [.int x4, .int x5]) (n := 2) d_M_findDate_96 rfl rfl (Nat.le_of_ble_eq_true rfl) tw_2156 tw_2157 tw_99 cw_M_monthLong hy_M_monthLong (Nat.le_of_ble_eq_true rfl) (p_M_monthLong d x4 x5 h1) fun x6 h3 => ?_
      refine gk_isub (pc := 99) d_M_findDate_99 ?_
      refine gk_topI (pc := 100) fun x7 => ?_
      refine gk_istore_n (pc := 100) (L' := [(2, .int x7), (0, va_rf v0)]) d_M_findDate_100 (Nat.le_of_ble_eq_true rfl) rfl ?_
      refine gk_aload_n (pc := 101) 1 d_M_findDate_101 rfl ?_
      refine gk_dup (pc := 102) d_M_findDate_102 (gk_cat_rf _) ?_
      refine gk_getI (pc := 103) 7 23 d_M_findDate_103 rfl (Nat.le_of_ble_eq_true rfl) tw_1668 fun x8 => ?_
      refine gk_iconst (pc := 106) (1 : Int32) d_M_findDate_106 rfl ?_
      refine gk_iadd (pc := 107) d_M_findDate_107 ?_
      refine gk_putfield (pc := 108) 7 23 d_M_findDate_108 rfl (Nat.le_of_ble_eq_true rfl) tw_1668 (Or.inl rfl) fun h4 => ?_
      refine gk_goto (pc := 111) 72 d_M_findDate_111 rfl ?_
      refine gk_weak [1, 0] (L' := [(0, va_rf v0), (2, .int x7)]) rfl ?_
      exact q72 v0 x7 h4
theorem p_M_findDate_b57 (d : Nat) (b14 : Option Nat → Int32 → gk_H → Option (Unit × gk_H)) (q14 : ∀ (v0 : Option Nat) (v2 : Int32) (h : gk_H), gk_P gw_V (d + 2) y_M_findDate b_M_findDate 3 none [] (b14 v0 v2 h) 14 [(0, va_rf v0), (2, .int v2)] [] h) (v0 : Option Nat) (s0 : Int32) (s1 : Int32) (h : gk_H) : gk_P gw_V (d + 2) y_M_findDate b_M_findDate 3 none [] (f_M_findDate_b57 b14 v0 s0 s1 h) 57 [(0, va_rf v0)] [.int s1, .int s0] h := by
  unfold f_M_findDate_b57
  refine gk_isub (pc := 57) d_M_findDate_57 ?_
  refine gk_topI (pc := 58) fun x1 => ?_
  refine gk_istore_n (pc := 58) (L' := [(2, .int x1), (0, va_rf v0)]) d_M_findDate_58 (Nat.le_of_ble_eq_true rfl) rfl ?_
  refine gk_aload_n (pc := 59) 1 d_M_findDate_59 rfl ?_
  refine gk_dup (pc := 60) d_M_findDate_60 (gk_cat_rf _) ?_
  refine gk_getI (pc := 61) 7 22 d_M_findDate_61 rfl (Nat.le_of_ble_eq_true rfl) tw_1667 fun x2 => ?_
  refine gk_iconst (pc := 64) (1 : Int32) d_M_findDate_64 rfl ?_
  refine gk_iadd (pc := 65) d_M_findDate_65 ?_
  refine gk_putfield (pc := 66) 7 22 d_M_findDate_66 rfl (Nat.le_of_ble_eq_true rfl) tw_1667 (Or.inl rfl) fun h1 => ?_
  refine gk_goto (pc := 69) 14 d_M_findDate_69 rfl ?_
  refine gk_weak [1, 0] (L' := [(0, va_rf v0), (2, .int x1)]) rfl ?_
  exact q14 v0 x1 h1
theorem p_M_findDate_b34 (d : Nat) (b14 : Option Nat → Int32 → gk_H → Option (Unit × gk_H)) (q14 : ∀ (v0 : Option Nat) (v2 : Int32) (h : gk_H), gk_P gw_V (d + 2) y_M_findDate b_M_findDate 3 none [] (b14 v0 v2 h) 14 [(0, va_rf v0), (2, .int v2)] [] h) (v0 : Option Nat) (v2 : Int32) (s0 : Int32) (s1 : Int32) (h : gk_H) : gk_P gw_V (d + 2) y_M_findDate b_M_findDate 3 none [] (f_M_findDate_b34 b14 v0 v2 s0 s1 h) 34 [(0, va_rf v0), (2, .int v2)] [.int s1, .int s0] h := by
  unfold f_M_findDate_b34
  refine gk_icmp_le (pc := 34) 72 d_M_findDate_34 rfl (fun _ => ?_) (fun _ => ?_)
  · exact p_M_findDate_b72 d gk_F v0 v2 h
  · refine gk_iload_n (pc := 37) 1 d_M_findDate_37 rfl ?_
    refine gk_aload_n (pc := 38) 0 d_M_findDate_38 rfl ?_
    refine gk_getI (pc := 39) 7 22 d_M_findDate_39 rfl (Nat.le_of_ble_eq_true rfl) tw_1667 fun x1 => ?_
    refine gk_callS (pc := 42) (d := (d + 1)) (w' := gv_I) (as := [.int x1]) (n := 1) d_M_findDate_42 rfl rfl (Nat.le_of_ble_eq_true rfl) tw_2153 tw_2154 tw_99 cw_M_isLeap hy_M_isLeap (Nat.le_of_ble_eq_true rfl) (p_M_isLeap (d + 1) x1 h) fun x2 h1 => ?_
    refine gk_if_eq (pc := 45) 54 d_M_findDate_45 rfl (fun _ => ?_) (fun _ => ?_)
    · refine gk_sipush (pc := 54) (365 : Int32) d_M_findDate_54 rfl ?_
      refine gk_weak [0] (L' := [(0, va_rf v0)]) rfl ?_
      exact p_M_findDate_b57 d b14 q14 v0 v2 (365 : Int32) h1
    · refine gk_sipush (pc := 48) (366 : Int32) d_M_findDate_48 rfl ?_
      refine gk_goto (pc := 51) 57 d_M_findDate_51 rfl ?_
      refine gk_weak [0] (L' := [(0, va_rf v0)]) rfl ?_
      exact p_M_findDate_b57 d b14 q14 v0 v2 (366 : Int32) h1
theorem p_M_findDate_b14 (d : Nat)  : ∀ (fu : Nat) (v0 : Option Nat) (v2 : Int32) (h : gk_H), gk_P gw_V (d + 2) y_M_findDate b_M_findDate 3 none [] (f_M_findDate_b14  fu v0 v2 h) 14 [(0, va_rf v0), (2, .int v2)] [] h := by
  intro fu
  induction fu with
  | zero => intros; exact gk_none
  | succ fu q14 =>
    intro v0 v2 h
    rw [f_M_findDate_b14]
    refine gk_iload_n (pc := 14) 1 d_M_findDate_14 rfl ?_
    refine gk_aload_n (pc := 15) 0 d_M_findDate_15 rfl ?_
    refine gk_getI (pc := 16) 7 22 d_M_findDate_16 rfl (Nat.le_of_ble_eq_true rfl) tw_1667 fun x1 => ?_
    refine gk_callS (pc := 19) (d := (d + 1)) (w' := gv_I) (as := [.int x1]) (n := 1) d_M_findDate_19 rfl rfl (Nat.le_of_ble_eq_true rfl) tw_2153 tw_2154 tw_99 cw_M_isLeap hy_M_isLeap (Nat.le_of_ble_eq_true rfl) (p_M_isLeap (d + 1) x1 h) fun x2 h1 => ?_
    refine gk_if_eq (pc := 22) 31 d_M_findDate_22 rfl (fun _ => ?_) (fun _ => ?_)
    · refine gk_sipush (pc := 31) (365 : Int32) d_M_findDate_31 rfl ?_
      exact p_M_findDate_b34 d (f_M_findDate_b14 fu) q14 v0 v2 v2 (365 : Int32) h1
    · refine gk_sipush (pc := 25) (366 : Int32) d_M_findDate_25 rfl ?_
      refine gk_goto (pc := 28) 34 d_M_findDate_28 rfl ?_
      exact p_M_findDate_b34 d (f_M_findDate_b14 fu) q14 v0 v2 v2 (366 : Int32) h1
theorem w_M_findDate (d : Nat) (a0 : Option Nat) (a1 : Int32) (h : gk_H) : gk_P gw_V (d + 2) y_M_findDate b_M_findDate 3 none [] (f_M_findDate a0 a1 h) 0 [(0, va_rf a0), (1, .int a1)] [] h := by
  unfold f_M_findDate
  refine gk_aload_n (pc := 0) 0 d_M_findDate_0 rfl ?_
  refine gk_sipush (pc := 1) (1900 : Int32) d_M_findDate_1 rfl ?_
  refine gk_putfield (pc := 4) 7 22 d_M_findDate_4 rfl (Nat.le_of_ble_eq_true rfl) tw_1667 (Or.inl rfl) fun h1 => ?_
  refine gk_aload_n (pc := 7) 0 d_M_findDate_7 rfl ?_
  refine gk_iconst (pc := 8) (1 : Int32) d_M_findDate_8 rfl ?_
  refine gk_putfield (pc := 9) 7 23 d_M_findDate_9 rfl (Nat.le_of_ble_eq_true rfl) tw_1668 (Or.inl rfl) fun h2 => ?_
  refine gk_iload_n (pc := 12) 1 d_M_findDate_12 rfl ?_
  refine gk_istore_n (pc := 13) (L' := [(2, .int a1), (0, va_rf a0), (1, .int a1)]) d_M_findDate_13 (Nat.le_of_ble_eq_true rfl) rfl ?_
  refine gk_weak [1, 0] (L' := [(0, va_rf a0), (2, .int a1)]) rfl ?_
  exact p_M_findDate_b14 d gk_F a0 a1 h2
theorem p_M_findDate (d : Nat) (a0 : Option Nat) (a1 : Int32) (h : gk_H) : ∀ r h1, f_M_findDate a0 a1 h = some (r, h1) → gk_M (d + 2) y_M_findDate b_M_findDate 3 none [va_rf a0, .int a1] h (.inl (gv_V r)) h1 :=
  fun r h1 e => gk_M_of2 (by decide +kernel) (by simp [lv_args, gk_cat_rf, gk_catI, gk_catJ, gk_catD, gv_V, gv_I, gv_J, gv_D, gv_R]) (by simp [lg_sl, gk_cat_rf, gk_catI, gk_catJ, gk_catD, gv_V, gv_I, gv_J, gv_D, gv_R]) (w_M_findDate d a0 a1 h r h1 e)
theorem d_M_isShort_0 : decode b_M_isShort 0 = .ok (.lload_n 0, 1) := by decide +kernel
theorem d_M_isShort_1 : decode b_M_isShort 1 = .ok (.ldc2_w 442, 3) := by decide +kernel
theorem d_M_isShort_4 : decode b_M_isShort 4 = .ok (.lcmp, 1) := by decide +kernel
theorem d_M_isShort_5 : decode b_M_isShort 5 = .ok (.ifCond .lt 15, 3) := by decide +kernel
theorem d_M_isShort_8 : decode b_M_isShort 8 = .ok (.lload_n 0, 1) := by decide +kernel
theorem d_M_isShort_9 : decode b_M_isShort 9 = .ok (.ldc2_w 444, 3) := by decide +kernel
theorem d_M_isShort_12 : decode b_M_isShort 12 = .ok (.lcmp, 1) := by decide +kernel
theorem d_M_isShort_13 : decode b_M_isShort 13 = .ok (.ifCond .gt 7, 3) := by decide +kernel
theorem d_M_isShort_16 : decode b_M_isShort 16 = .ok (.iconst 1, 1) := by decide +kernel
theorem d_M_isShort_17 : decode b_M_isShort 17 = .ok (.goto 4, 3) := by decide +kernel
theorem d_M_isShort_20 : decode b_M_isShort 20 = .ok (.iconst 0, 1) := by decide +kernel
theorem d_M_isShort_21 : decode b_M_isShort 21 = .ok (.ireturn, 1) := by decide +kernel
theorem p_M_isShort_b21 (d : Nat)  (s0 : Int32) (h : gk_H) : gk_P gw_I d y_M_isShort b_M_isShort 2 (some .boolean) [] (f_M_isShort_b21  s0 h) 21 [] [.int s0] h := by
  unfold f_M_isShort_b21
  exact gk_zret (pc := 21) rfl d_M_isShort_21 rfl
theorem p_M_isShort_b20 (d : Nat)   (h : gk_H) : gk_P gw_I d y_M_isShort b_M_isShort 2 (some .boolean) [] (f_M_isShort_b20   h) 20 [] [] h := by
  unfold f_M_isShort_b20
  refine gk_iconst (pc := 20) (0 : Int32) d_M_isShort_20 rfl ?_
  exact p_M_isShort_b21 d (0 : Int32) h
theorem w_M_isShort (d : Nat) (a0 : Int64) (h : gk_H) : gk_P gw_I d y_M_isShort b_M_isShort 2 (some .boolean) [] (f_M_isShort a0 h) 0 [(0, .long a0)] [] h := by
  unfold f_M_isShort
  refine gk_lload_n (pc := 0) 0 d_M_isShort_0 rfl ?_
  refine gk_ldc2 (pc := 1) tw_2148 d_M_isShort_1 ?_
  refine gk_lcmp (pc := 4) d_M_isShort_4 ?_
  refine gk_if_lt (pc := 5) 20 d_M_isShort_5 rfl (fun _ => ?_) (fun _ => ?_)
  · refine gk_weak [] (L' := []) rfl ?_
    exact p_M_isShort_b20 d h
  · refine gk_lload_n (pc := 8) 0 d_M_isShort_8 rfl ?_
    refine gk_ldc2 (pc := 9) tw_2140 d_M_isShort_9 ?_
    refine gk_lcmp (pc := 12) d_M_isShort_12 ?_
    refine gk_if_gt (pc := 13) 20 d_M_isShort_13 rfl (fun _ => ?_) (fun _ => ?_)
    · refine gk_weak [] (L' := []) rfl ?_
      exact p_M_isShort_b20 d h
    · refine gk_iconst (pc := 16) (1 : Int32) d_M_isShort_16 rfl ?_
      refine gk_goto (pc := 17) 21 d_M_isShort_17 rfl ?_
      refine gk_weak [] (L' := []) rfl ?_
      exact p_M_isShort_b21 d (1 : Int32) h
theorem p_M_isShort (d : Nat) (a0 : Int64) (h : gk_H) : ∀ r h1, f_M_isShort a0 h = some (r, h1) → gk_M d y_M_isShort b_M_isShort 2 (some .boolean) [.long a0] h (.inl (gv_I r)) h1 :=
  fun r h1 e => gk_M_of2 (by decide +kernel) (by simp [lv_args, gk_cat_rf, gk_catI, gk_catJ, gk_catD, gv_V, gv_I, gv_J, gv_D, gv_R]) (by simp [lg_sl, gk_cat_rf, gk_catI, gk_catJ, gk_catD, gv_V, gv_I, gv_J, gv_D, gv_R]) (w_M_isShort d a0 h r h1 e)
theorem d_M_firstOf_0 : decode b_M_firstOf 0 = .ok (.iconst 1, 1) := by decide +kernel
theorem d_M_firstOf_1 : decode b_M_firstOf 1 = .ok (.istore_n 2, 1) := by decide +kernel
theorem d_M_firstOf_2 : decode b_M_firstOf 2 = .ok (.sipush 1900, 3) := by decide +kernel
theorem d_M_firstOf_5 : decode b_M_firstOf 5 = .ok (.istore_n 3, 1) := by decide +kernel
theorem d_M_firstOf_6 : decode b_M_firstOf 6 = .ok (.iload_n 3, 1) := by decide +kernel
theorem d_M_firstOf_7 : decode b_M_firstOf 7 = .ok (.iload_n 0, 1) := by decide +kernel
theorem d_M_firstOf_8 : decode b_M_firstOf 8 = .ok (.if_icmp .ge 28, 3) := by decide +kernel
theorem d_M_firstOf_11 : decode b_M_firstOf 11 = .ok (.iload_n 2, 1) := by decide +kernel
theorem d_M_firstOf_12 : decode b_M_firstOf 12 = .ok (.iload_n 3, 1) := by decide +kernel
theorem d_M_firstOf_13 : decode b_M_firstOf 13 = .ok (.invokestatic 427, 3) := by decide +kernel
theorem d_M_firstOf_16 : decode b_M_firstOf 16 = .ok (.ifCond .eq 9, 3) := by decide +kernel
theorem d_M_firstOf_19 : decode b_M_firstOf 19 = .ok (.sipush 366, 3) := by decide +kernel
theorem d_M_firstOf_22 : decode b_M_firstOf 22 = .ok (.goto 6, 3) := by decide +kernel
theorem d_M_firstOf_25 : decode b_M_firstOf 25 = .ok (.sipush 365, 3) := by decide +kernel
theorem d_M_firstOf_28 : decode b_M_firstOf 28 = .ok (.iadd, 1) := by decide +kernel
theorem d_M_firstOf_29 : decode b_M_firstOf 29 = .ok (.istore_n 2, 1) := by decide +kernel
theorem d_M_firstOf_30 : decode b_M_firstOf 30 = .ok (.iinc 3 1, 3) := by decide +kernel
theorem d_M_firstOf_33 : decode b_M_firstOf 33 = .ok (.goto (-27), 3) := by decide +kernel
theorem d_M_firstOf_36 : decode b_M_firstOf 36 = .ok (.iconst 1, 1) := by decide +kernel
theorem d_M_firstOf_37 : decode b_M_firstOf 37 = .ok (.istore_n 3, 1) := by decide +kernel
theorem d_M_firstOf_38 : decode b_M_firstOf 38 = .ok (.iload_n 3, 1) := by decide +kernel
theorem d_M_firstOf_39 : decode b_M_firstOf 39 = .ok (.iload_n 1, 1) := by decide +kernel
theorem d_M_firstOf_40 : decode b_M_firstOf 40 = .ok (.if_icmp .ge 17, 3) := by decide +kernel
theorem d_M_firstOf_43 : decode b_M_firstOf 43 = .ok (.iload_n 2, 1) := by decide +kernel
theorem d_M_firstOf_44 : decode b_M_firstOf 44 = .ok (.iload_n 0, 1) := by decide +kernel
theorem d_M_firstOf_45 : decode b_M_firstOf 45 = .ok (.iload_n 3, 1) := by decide +kernel
theorem d_M_firstOf_46 : decode b_M_firstOf 46 = .ok (.invokestatic 430, 3) := by decide +kernel
theorem d_M_firstOf_49 : decode b_M_firstOf 49 = .ok (.iadd, 1) := by decide +kernel
theorem d_M_firstOf_50 : decode b_M_firstOf 50 = .ok (.istore_n 2, 1) := by decide +kernel
theorem d_M_firstOf_51 : decode b_M_firstOf 51 = .ok (.iinc 3 1, 3) := by decide +kernel
theorem d_M_firstOf_54 : decode b_M_firstOf 54 = .ok (.goto (-16), 3) := by decide +kernel
theorem d_M_firstOf_57 : decode b_M_firstOf 57 = .ok (.iload_n 2, 1) := by decide +kernel
theorem d_M_firstOf_58 : decode b_M_firstOf 58 = .ok (.ireturn, 1) := by decide +kernel
theorem p_M_firstOf_b38 (d : Nat)  : ∀ (fu : Nat) (v0 : Int32) (v1 : Int32) (v2 : Int32) (v3 : Int32) (h : gk_H), gk_P gw_I (d + 2) y_M_firstOf b_M_firstOf 4 (some .int) [] (f_M_firstOf_b38  fu v0 v1 v2 v3 h) 38 [(0, .int v0), (1, .int v1), (2, .int v2), (3, .int v3)] [] h := by
  intro fu
  induction fu with
  | zero => intros; exact gk_none
  | succ fu q38 =>
    intro v0 v1 v2 v3 h
    rw [f_M_firstOf_b38]
    refine gk_iload_n (pc := 38) 3 d_M_firstOf_38 rfl ?_
    refine gk_iload_n (pc := 39) 1 d_M_firstOf_39 rfl ?_
    refine gk_icmp_ge (pc := 40) 57 d_M_firstOf_40 rfl (fun _ => ?_) (fun _ => ?_)
    · refine gk_iload_n (pc := 57) 2 d_M_firstOf_57 rfl ?_
      exact gk_iret (pc := 58) rfl d_M_firstOf_58 rfl
    · refine gk_iload_n (pc := 43) 2 d_M_firstOf_43 rfl ?_
      refine gk_iload_n (pc := 44) 0 d_M_firstOf_44 rfl ?_
      refine gk_iload_n (pc := 45) 3 d_M_firstOf_45 rfl ?_
      refine gk_callS (pc := 46) (d := (d + 1)) (w' := gv_I) (as := [.int v0, .int v3]) (n := 2) d_M_firstOf_46 rfl rfl (Nat.le_of_ble_eq_true rfl) tw_2156 tw_2157 tw_99 cw_M_monthLong hy_M_monthLong (Nat.le_of_ble_eq_true rfl) (p_M_monthLong d v0 v3 h) fun x1 h1 => ?_
      refine gk_iadd (pc := 49) d_M_firstOf_49 ?_
      refine gk_topI (pc := 50) fun x2 => ?_
      refine gk_istore_n (pc := 50) (L' := [(2, .int x2), (0, .int v0), (1, .int v1), (3, .int v3)]) d_M_firstOf_50 (Nat.le_of_ble_eq_true rfl) rfl ?_
      refine gk_iincN (pc := 51) 3 (1 : Int32) (L' := fun x3 => [(3, .int x3), (2, .int x2), (0, .int v0), (1, .int v1)]) d_M_firstOf_51 rfl rfl (Nat.le_of_ble_eq_true rfl) (fun _ => rfl) fun x3 => ?_
      refine gk_goto (pc := 54) 38 d_M_firstOf_54 rfl ?_
      refine gk_weak [2, 3, 1, 0] (L' := [(0, .int v0), (1, .int v1), (2, .int x2), (3, .int x3)]) rfl ?_
      exact q38 v0 v1 x2 x3 h1
theorem p_M_firstOf_b28 (d : Nat) (b6 : Int32 → Int32 → Int32 → Int32 → gk_H → Option (Int32 × gk_H)) (q6 : ∀ (v0 : Int32) (v1 : Int32) (v2 : Int32) (v3 : Int32) (h : gk_H), gk_P gw_I (d + 2) y_M_firstOf b_M_firstOf 4 (some .int) [] (b6 v0 v1 v2 v3 h) 6 [(0, .int v0), (1, .int v1), (2, .int v2), (3, .int v3)] [] h) (v0 : Int32) (v1 : Int32) (v3 : Int32) (s0 : Int32) (s1 : Int32) (h : gk_H) : gk_P gw_I (d + 2) y_M_firstOf b_M_firstOf 4 (some .int) [] (f_M_firstOf_b28 b6 v0 v1 v3 s0 s1 h) 28 [(0, .int v0), (1, .int v1), (3, .int v3)] [.int s1, .int s0] h := by
  unfold f_M_firstOf_b28
  refine gk_iadd (pc := 28) d_M_firstOf_28 ?_
  refine gk_topI (pc := 29) fun x1 => ?_
  refine gk_istore_n (pc := 29) (L' := [(2, .int x1), (0, .int v0), (1, .int v1), (3, .int v3)]) d_M_firstOf_29 (Nat.le_of_ble_eq_true rfl) rfl ?_
  refine gk_iincN (pc := 30) 3 (1 : Int32) (L' := fun x2 => [(3, .int x2), (2, .int x1), (0, .int v0), (1, .int v1)]) d_M_firstOf_30 rfl rfl (Nat.le_of_ble_eq_true rfl) (fun _ => rfl) fun x2 => ?_
  refine gk_goto (pc := 33) 6 d_M_firstOf_33 rfl ?_
  refine gk_weak [2, 3, 1, 0] (L' := [(0, .int v0), (1, .int v1), (2, .int x1), (3, .int x2)]) rfl ?_
  exact q6 v0 v1 x1 x2 h
theorem p_M_firstOf_b6 (d : Nat)  : ∀ (fu : Nat) (v0 : Int32) (v1 : Int32) (v2 : Int32) (v3 : Int32) (h : gk_H), gk_P gw_I (d + 2) y_M_firstOf b_M_firstOf 4 (some .int) [] (f_M_firstOf_b6  fu v0 v1 v2 v3 h) 6 [(0, .int v0), (1, .int v1), (2, .int v2), (3, .int v3)] [] h := by
  intro fu
  induction fu with
  | zero => intros; exact gk_none
  | succ fu q6 =>
    intro v0 v1 v2 v3 h
    rw [f_M_firstOf_b6]
    refine gk_iload_n (pc := 6) 3 d_M_firstOf_6 rfl ?_
    refine gk_iload_n (pc := 7) 0 d_M_firstOf_7 rfl ?_
    refine gk_icmp_ge (pc := 8) 36 d_M_firstOf_8 rfl (fun _ => ?_) (fun _ => ?_)
    · refine gk_iconst (pc := 36) (1 : Int32) d_M_firstOf_36 rfl ?_
      refine gk_istore_n (pc := 37) (L' := [(3, .int (1 : Int32)), (0, .int v0), (1, .int v1), (2, .int v2)]) d_M_firstOf_37 (Nat.le_of_ble_eq_true rfl) rfl ?_
      refine gk_weak [1, 2, 3, 0] (L' := [(0, .int v0), (1, .int v1), (2, .int v2), (3, .int (1 : Int32))]) rfl ?_
      exact p_M_firstOf_b38 d gk_F v0 v1 v2 (1 : Int32) h
    · refine gk_iload_n (pc := 11) 2 d_M_firstOf_11 rfl ?_
      refine gk_iload_n (pc := 12) 3 d_M_firstOf_12 rfl ?_
      refine gk_callS (pc := 13) (d := (d + 1)) (w' := gv_I) (as := [.int v3]) (n := 1) d_M_firstOf_13 rfl rfl (Nat.le_of_ble_eq_true rfl) tw_2153 tw_2154 tw_99 cw_M_isLeap hy_M_isLeap (Nat.le_of_ble_eq_true rfl) (p_M_isLeap (d + 1) v3 h) fun x1 h1 => ?_
      refine gk_if_eq (pc := 16) 25 d_M_firstOf_16 rfl (fun _ => ?_) (fun _ => ?_)
      · refine gk_sipush (pc := 25) (365 : Int32) d_M_firstOf_25 rfl ?_
        refine gk_weak [0, 1, 3] (L' := [(0, .int v0), (1, .int v1), (3, .int v3)]) rfl ?_
        exact p_M_firstOf_b28 d (f_M_firstOf_b6 fu) q6 v0 v1 v3 v2 (365 : Int32) h1
      · refine gk_sipush (pc := 19) (366 : Int32) d_M_firstOf_19 rfl ?_
        refine gk_goto (pc := 22) 28 d_M_firstOf_22 rfl ?_
        refine gk_weak [0, 1, 3] (L' := [(0, .int v0), (1, .int v1), (3, .int v3)]) rfl ?_
        exact p_M_firstOf_b28 d (f_M_firstOf_b6 fu) q6 v0 v1 v3 v2 (366 : Int32) h1
theorem w_M_firstOf (d : Nat) (a0 : Int32) (a1 : Int32) (h : gk_H) : gk_P gw_I (d + 2) y_M_firstOf b_M_firstOf 4 (some .int) [] (f_M_firstOf a0 a1 h) 0 [(0, .int a0), (1, .int a1)] [] h := by
  unfold f_M_firstOf
  refine gk_iconst (pc := 0) (1 : Int32) d_M_firstOf_0 rfl ?_
  refine gk_istore_n (pc := 1) (L' := [(2, .int (1 : Int32)), (0, .int a0), (1, .int a1)]) d_M_firstOf_1 (Nat.le_of_ble_eq_true rfl) rfl ?_
  refine gk_sipush (pc := 2) (1900 : Int32) d_M_firstOf_2 rfl ?_
  refine gk_istore_n (pc := 5) (L' := [(3, .int (1900 : Int32)), (2, .int (1 : Int32)), (0, .int a0), (1, .int a1)]) d_M_firstOf_5 (Nat.le_of_ble_eq_true rfl) rfl ?_
  refine gk_weak [2, 3, 1, 0] (L' := [(0, .int a0), (1, .int a1), (2, .int (1 : Int32)), (3, .int (1900 : Int32))]) rfl ?_
  exact p_M_firstOf_b6 d gk_F a0 a1 (1 : Int32) (1900 : Int32) h
theorem p_M_firstOf (d : Nat) (a0 : Int32) (a1 : Int32) (h : gk_H) : ∀ r h1, f_M_firstOf a0 a1 h = some (r, h1) → gk_M (d + 2) y_M_firstOf b_M_firstOf 4 (some .int) [.int a0, .int a1] h (.inl (gv_I r)) h1 :=
  fun r h1 e => gk_M_of2 (by decide +kernel) (by simp [lv_args, gk_cat_rf, gk_catI, gk_catJ, gk_catD, gv_V, gv_I, gv_J, gv_D, gv_R]) (by simp [lg_sl, gk_cat_rf, gk_catI, gk_catJ, gk_catD, gv_V, gv_I, gv_J, gv_D, gv_R]) (w_M_firstOf d a0 a1 h r h1 e)
theorem d_M_answerDay_0 : decode b_M_answerDay 0 = .ok (.lload_n 1, 1) := by decide +kernel
theorem d_M_answerDay_1 : decode b_M_answerDay 1 = .ok (.lconst 0, 1) := by decide +kernel
theorem d_M_answerDay_2 : decode b_M_answerDay 2 = .ok (.lcmp, 1) := by decide +kernel
theorem d_M_answerDay_3 : decode b_M_answerDay 3 = .ok (.ifCond .lt 11, 3) := by decide +kernel
theorem d_M_answerDay_6 : decode b_M_answerDay 6 = .ok (.lload_n 1, 1) := by decide +kernel
theorem d_M_answerDay_7 : decode b_M_answerDay 7 = .ok (.ldc2_w 446, 3) := by decide +kernel
theorem d_M_answerDay_10 : decode b_M_answerDay 10 = .ok (.lcmp, 1) := by decide +kernel
theorem d_M_answerDay_11 : decode b_M_answerDay 11 = .ok (.ifCond .le 9, 3) := by decide +kernel
theorem d_M_answerDay_14 : decode b_M_answerDay 14 = .ok (.aload_n 0, 1) := by decide +kernel
theorem d_M_answerDay_15 : decode b_M_answerDay 15 = .ok (.bipush 6, 2) := by decide +kernel
theorem d_M_answerDay_17 : decode b_M_answerDay 17 = .ok (.invokevirtual 58, 3) := by decide +kernel
theorem d_M_answerDay_20 : decode b_M_answerDay 20 = .ok (.aload_n 0, 1) := by decide +kernel
theorem d_M_answerDay_21 : decode b_M_answerDay 21 = .ok (.lload_n 1, 1) := by decide +kernel
theorem d_M_answerDay_22 : decode b_M_answerDay 22 = .ok (.l2d, 1) := by decide +kernel
theorem d_M_answerDay_23 : decode b_M_answerDay 23 = .ok (.invokevirtual 207, 3) := by decide +kernel
theorem d_M_answerDay_26 : decode b_M_answerDay 26 = .ok (.return_, 1) := by decide +kernel
theorem p_M_answerDay_b20 (d : Nat)  (v0 : Option Nat) (v1 : Int64) (h : gk_H) : gk_P gw_V (d + 2) y_M_answerDay b_M_answerDay 3 none [] (f_M_answerDay_b20  v0 v1 h) 20 [(0, va_rf v0), (1, .long v1)] [] h := by
  unfold f_M_answerDay_b20
  refine gk_aload_n (pc := 20) 0 d_M_answerDay_20 rfl ?_
  refine gk_lload_n (pc := 21) 1 d_M_answerDay_21 rfl ?_
  refine gk_l2d (pc := 22) d_M_answerDay_22 ?_
  refine gk_callV (pc := 23) (d := (d + 1)) (w' := gv_V) (as := [.double (FP.l2d v1)]) (n := 1) 7 d_M_answerDay_23 rfl rfl rfl rfl (Nat.le_of_ble_eq_true rfl) tw_1916 tw_1918 tw_38 tw_99 cw_M_answerNumber hy_M_answerNumber (Nat.le_of_ble_eq_true rfl) (p_M_answerNumber d v0 (FP.l2d v1) h) fun _ h1 => ?_
  exact gk_vret (pc := 26) rfl d_M_answerDay_26 rfl
theorem p_M_answerDay_b14 (d : Nat)  (v0 : Option Nat) (v1 : Int64) (h : gk_H) : gk_P gw_V (d + 2) y_M_answerDay b_M_answerDay 3 none [] (f_M_answerDay_b14  v0 v1 h) 14 [(0, va_rf v0), (1, .long v1)] [] h := by
  unfold f_M_answerDay_b14
  refine gk_aload_n (pc := 14) 0 d_M_answerDay_14 rfl ?_
  refine gk_bipush (pc := 15) (6 : Int32) d_M_answerDay_15 rfl ?_
  refine gk_callV (pc := 17) (d := (d + 1)) (w' := gv_V) (as := [.int (6 : Int32)]) (n := 1) 7 d_M_answerDay_17 rfl rfl rfl rfl (Nat.le_of_ble_eq_true rfl) tw_1805 tw_1807 tw_21 tw_99 cw_M_fail hy_M_fail (Nat.le_of_ble_eq_true rfl) (p_M_fail (d + 1) v0 (6 : Int32) h) fun _ h1 => ?_
  exact p_M_answerDay_b20 d v0 v1 h1
theorem w_M_answerDay (d : Nat) (a0 : Option Nat) (a1 : Int64) (h : gk_H) : gk_P gw_V (d + 2) y_M_answerDay b_M_answerDay 3 none [] (f_M_answerDay a0 a1 h) 0 [(0, va_rf a0), (1, .long a1)] [] h := by
  unfold f_M_answerDay
  refine gk_lload_n (pc := 0) 1 d_M_answerDay_0 rfl ?_
  refine gk_lconst (pc := 1) (0 : Int64) d_M_answerDay_1 rfl ?_
  refine gk_lcmp (pc := 2) d_M_answerDay_2 ?_
  refine gk_if_lt (pc := 3) 14 d_M_answerDay_3 rfl (fun _ => ?_) (fun _ => ?_)
  · exact p_M_answerDay_b14 d a0 a1 h
  · refine gk_lload_n (pc := 6) 1 d_M_answerDay_6 rfl ?_
    refine gk_ldc2 (pc := 7) tw_2163 d_M_answerDay_7 ?_
    refine gk_lcmp (pc := 10) d_M_answerDay_10 ?_
    refine gk_if_le (pc := 11) 20 d_M_answerDay_11 rfl (fun _ => ?_) (fun _ => ?_)
    · exact p_M_answerDay_b20 d a0 a1 h
    · exact p_M_answerDay_b14 d a0 a1 h
theorem p_M_answerDay (d : Nat) (a0 : Option Nat) (a1 : Int64) (h : gk_H) : ∀ r h1, f_M_answerDay a0 a1 h = some (r, h1) → gk_M (d + 2) y_M_answerDay b_M_answerDay 3 none [va_rf a0, .long a1] h (.inl (gv_V r)) h1 :=
  fun r h1 e => gk_M_of2 (by decide +kernel) (by simp [lv_args, gk_cat_rf, gk_catI, gk_catJ, gk_catD, gv_V, gv_I, gv_J, gv_D, gv_R]) (by simp [lg_sl, gk_cat_rf, gk_catI, gk_catJ, gk_catD, gv_V, gv_I, gv_J, gv_D, gv_R]) (w_M_answerDay d a0 a1 h r h1 e)
theorem d_M_monthsOn_0 : decode b_M_monthsOn 0 = .ok (.lload_n 2, 1) := by decide +kernel
theorem d_M_monthsOn_1 : decode b_M_monthsOn 1 = .ok (.invokestatic 473, 3) := by decide +kernel
theorem d_M_monthsOn_4 : decode b_M_monthsOn 4 = .ok (.ifCond .ne 10, 3) := by decide +kernel
theorem d_M_monthsOn_7 : decode b_M_monthsOn 7 = .ok (.aload_n 0, 1) := by decide +kernel
theorem d_M_monthsOn_8 : decode b_M_monthsOn 8 = .ok (.bipush 6, 2) := by decide +kernel
theorem d_M_monthsOn_10 : decode b_M_monthsOn 10 = .ok (.invokevirtual 58, 3) := by decide +kernel
theorem d_M_monthsOn_13 : decode b_M_monthsOn 13 = .ok (.return_, 1) := by decide +kernel
theorem d_M_monthsOn_14 : decode b_M_monthsOn 14 = .ok (.aload_n 0, 1) := by decide +kernel
theorem d_M_monthsOn_15 : decode b_M_monthsOn 15 = .ok (.getfield 436, 3) := by decide +kernel
theorem d_M_monthsOn_18 : decode b_M_monthsOn 18 = .ok (.iconst 1, 1) := by decide +kernel
theorem d_M_monthsOn_19 : decode b_M_monthsOn 19 = .ok (.isub, 1) := by decide +kernel
theorem d_M_monthsOn_20 : decode b_M_monthsOn 20 = .ok (.lload_n 2, 1) := by decide +kernel
theorem d_M_monthsOn_21 : decode b_M_monthsOn 21 = .ok (.l2i, 1) := by decide +kernel
theorem d_M_monthsOn_22 : decode b_M_monthsOn 22 = .ok (.iadd, 1) := by decide +kernel
theorem d_M_monthsOn_23 : decode b_M_monthsOn 23 = .ok (.istore 4, 2) := by decide +kernel
theorem d_M_monthsOn_25 : decode b_M_monthsOn 25 = .ok (.aload_n 0, 1) := by decide +kernel
theorem d_M_monthsOn_26 : decode b_M_monthsOn 26 = .ok (.getfield 433, 3) := by decide +kernel
theorem d_M_monthsOn_29 : decode b_M_monthsOn 29 = .ok (.istore 5, 2) := by decide +kernel
theorem d_M_monthsOn_31 : decode b_M_monthsOn 31 = .ok (.iload 4, 2) := by decide +kernel
theorem d_M_monthsOn_33 : decode b_M_monthsOn 33 = .ok (.ifCond .ge 16, 3) := by decide +kernel
theorem d_M_monthsOn_36 : decode b_M_monthsOn 36 = .ok (.iload 4, 2) := by decide +kernel
theorem d_M_monthsOn_38 : decode b_M_monthsOn 38 = .ok (.bipush 12, 2) := by decide +kernel
theorem d_M_monthsOn_40 : decode b_M_monthsOn 40 = .ok (.iadd, 1) := by decide +kernel
theorem d_M_monthsOn_41 : decode b_M_monthsOn 41 = .ok (.istore 4, 2) := by decide +kernel
theorem d_M_monthsOn_43 : decode b_M_monthsOn 43 = .ok (.iinc 5 (-1), 3) := by decide +kernel
theorem d_M_monthsOn_46 : decode b_M_monthsOn 46 = .ok (.goto (-15), 3) := by decide +kernel
theorem d_M_monthsOn_49 : decode b_M_monthsOn 49 = .ok (.iload 5, 2) := by decide +kernel
theorem d_M_monthsOn_51 : decode b_M_monthsOn 51 = .ok (.iload 4, 2) := by decide +kernel
theorem d_M_monthsOn_53 : decode b_M_monthsOn 53 = .ok (.bipush 12, 2) := by decide +kernel
theorem d_M_monthsOn_55 : decode b_M_monthsOn 55 = .ok (.idiv, 1) := by decide +kernel
theorem d_M_monthsOn_56 : decode b_M_monthsOn 56 = .ok (.iadd, 1) := by decide +kernel
theorem d_M_monthsOn_57 : decode b_M_monthsOn 57 = .ok (.istore 5, 2) := by decide +kernel
theorem d_M_monthsOn_59 : decode b_M_monthsOn 59 = .ok (.iload 4, 2) := by decide +kernel
theorem d_M_monthsOn_61 : decode b_M_monthsOn 61 = .ok (.bipush 12, 2) := by decide +kernel
theorem d_M_monthsOn_63 : decode b_M_monthsOn 63 = .ok (.irem, 1) := by decide +kernel
theorem d_M_monthsOn_64 : decode b_M_monthsOn 64 = .ok (.iconst 1, 1) := by decide +kernel
theorem d_M_monthsOn_65 : decode b_M_monthsOn 65 = .ok (.iadd, 1) := by decide +kernel
theorem d_M_monthsOn_66 : decode b_M_monthsOn 66 = .ok (.istore 4, 2) := by decide +kernel
theorem d_M_monthsOn_68 : decode b_M_monthsOn 68 = .ok (.iload 5, 2) := by decide +kernel
theorem d_M_monthsOn_70 : decode b_M_monthsOn 70 = .ok (.sipush 1900, 3) := by decide +kernel
theorem d_M_monthsOn_73 : decode b_M_monthsOn 73 = .ok (.if_icmp .ge 10, 3) := by decide +kernel
theorem d_M_monthsOn_76 : decode b_M_monthsOn 76 = .ok (.aload_n 0, 1) := by decide +kernel
theorem d_M_monthsOn_77 : decode b_M_monthsOn 77 = .ok (.bipush 6, 2) := by decide +kernel
theorem d_M_monthsOn_79 : decode b_M_monthsOn 79 = .ok (.invokevirtual 58, 3) := by decide +kernel
theorem d_M_monthsOn_82 : decode b_M_monthsOn 82 = .ok (.return_, 1) := by decide +kernel
theorem d_M_monthsOn_83 : decode b_M_monthsOn 83 = .ok (.iload 5, 2) := by decide +kernel
theorem d_M_monthsOn_85 : decode b_M_monthsOn 85 = .ok (.iload 4, 2) := by decide +kernel
theorem d_M_monthsOn_87 : decode b_M_monthsOn 87 = .ok (.invokestatic 430, 3) := by decide +kernel
theorem d_M_monthsOn_90 : decode b_M_monthsOn 90 = .ok (.istore 6, 2) := by decide +kernel
theorem d_M_monthsOn_92 : decode b_M_monthsOn 92 = .ok (.aload_n 0, 1) := by decide +kernel
theorem d_M_monthsOn_93 : decode b_M_monthsOn 93 = .ok (.iload 5, 2) := by decide +kernel
theorem d_M_monthsOn_95 : decode b_M_monthsOn 95 = .ok (.iload 4, 2) := by decide +kernel
theorem d_M_monthsOn_97 : decode b_M_monthsOn 97 = .ok (.invokestatic 479, 3) := by decide +kernel
theorem d_M_monthsOn_100 : decode b_M_monthsOn 100 = .ok (.iload_n 1, 1) := by decide +kernel
theorem d_M_monthsOn_101 : decode b_M_monthsOn 101 = .ok (.ifCond .ne 12, 3) := by decide +kernel
theorem d_M_monthsOn_104 : decode b_M_monthsOn 104 = .ok (.aload_n 0, 1) := by decide +kernel
theorem d_M_monthsOn_105 : decode b_M_monthsOn 105 = .ok (.getfield 439, 3) := by decide +kernel
theorem d_M_monthsOn_108 : decode b_M_monthsOn 108 = .ok (.iload 6, 2) := by decide +kernel
theorem d_M_monthsOn_110 : decode b_M_monthsOn 110 = .ok (.if_icmp .le 8, 3) := by decide +kernel
theorem d_M_monthsOn_113 : decode b_M_monthsOn 113 = .ok (.iload 6, 2) := by decide +kernel
theorem d_M_monthsOn_115 : decode b_M_monthsOn 115 = .ok (.goto 7, 3) := by decide +kernel
theorem d_M_monthsOn_118 : decode b_M_monthsOn 118 = .ok (.aload_n 0, 1) := by decide +kernel
theorem d_M_monthsOn_119 : decode b_M_monthsOn 119 = .ok (.getfield 439, 3) := by decide +kernel
theorem d_M_monthsOn_122 : decode b_M_monthsOn 122 = .ok (.iadd, 1) := by decide +kernel
theorem d_M_monthsOn_123 : decode b_M_monthsOn 123 = .ok (.i2l, 1) := by decide +kernel
theorem d_M_monthsOn_124 : decode b_M_monthsOn 124 = .ok (.lconst 1, 1) := by decide +kernel
theorem d_M_monthsOn_125 : decode b_M_monthsOn 125 = .ok (.lsub, 1) := by decide +kernel
theorem d_M_monthsOn_126 : decode b_M_monthsOn 126 = .ok (.invokevirtual 482, 3) := by decide +kernel
theorem d_M_monthsOn_129 : decode b_M_monthsOn 129 = .ok (.return_, 1) := by decide +kernel
theorem p_M_monthsOn_b122 (d : Nat)  (s0 : Option Nat) (s1 : Int32) (s2 : Int32) (h : gk_H) : gk_P gw_V (d + 3) y_M_monthsOn b_M_monthsOn 7 none [] (f_M_monthsOn_b122  s0 s1 s2 h) 122 [] [.int s2, .int s1, va_rf s0] h := by
  unfold f_M_monthsOn_b122
  refine gk_iadd (pc := 122) d_M_monthsOn_122 ?_
  refine gk_i2l (pc := 123) d_M_monthsOn_123 ?_
  refine gk_lconst (pc := 124) (1 : Int64) d_M_monthsOn_124 rfl ?_
  refine gk_lsub (pc := 125) d_M_monthsOn_125 ?_
  refine gk_callV (pc := 126) (d := (d + 2)) (w' := gv_V) (as := [.long ((Int32.toInt64 (s1 + s2)) - (1 : Int64))]) (n := 1) 7 d_M_monthsOn_126 rfl rfl rfl rfl (Nat.le_of_ble_eq_true rfl) tw_2159 tw_2161 tw_86 tw_99 cw_M_answerDay hy_M_answerDay (Nat.le_of_ble_eq_true rfl) (p_M_answerDay d s0 ((Int32.toInt64 (s1 + s2)) - (1 : Int64)) h) fun _ h1 => ?_
  exact gk_vret (pc := 129) rfl d_M_monthsOn_129 rfl
theorem p_M_monthsOn_b113 (d : Nat)  (v6 : Int32) (s0 : Option Nat) (s1 : Int32) (h : gk_H) : gk_P gw_V (d + 3) y_M_monthsOn b_M_monthsOn 7 none [] (f_M_monthsOn_b113  v6 s0 s1 h) 113 [(6, .int v6)] [.int s1, va_rf s0] h := by
  unfold f_M_monthsOn_b113
  refine gk_iload (pc := 113) 0 d_M_monthsOn_113 rfl ?_
  refine gk_goto (pc := 115) 122 d_M_monthsOn_115 rfl ?_
  refine gk_weak [] (L' := []) rfl ?_
  exact p_M_monthsOn_b122 d s0 s1 v6 h
theorem p_M_monthsOn_b31 (d : Nat)  : ∀ (fu : Nat) (v0 : Option Nat) (v1 : Int32) (v4 : Int32) (v5 : Int32) (h : gk_H), gk_P gw_V (d + 3) y_M_monthsOn b_M_monthsOn 7 none [] (f_M_monthsOn_b31  fu v0 v1 v4 v5 h) 31 [(0, va_rf v0), (1, .int v1), (4, .int v4), (5, .int v5)] [] h := by
  intro fu
  induction fu with
  | zero => intros; exact gk_none
  | succ fu q31 =>
    intro v0 v1 v4 v5 h
    rw [f_M_monthsOn_b31]
    refine gk_iload (pc := 31) 2 d_M_monthsOn_31 rfl ?_
    refine gk_if_ge (pc := 33) 49 d_M_monthsOn_33 rfl (fun _ => ?_) (fun _ => ?_)
    · refine gk_iload (pc := 49) 3 d_M_monthsOn_49 rfl ?_
      refine gk_iload (pc := 51) 2 d_M_monthsOn_51 rfl ?_
      refine gk_bipush (pc := 53) (12 : Int32) d_M_monthsOn_53 rfl ?_
      refine gk_idiv (pc := 55) (by decide) d_M_monthsOn_55 ?_
      refine gk_iadd (pc := 56) d_M_monthsOn_56 ?_
      refine gk_topI (pc := 57) fun x1 => ?_
      refine gk_istore (pc := 57) (L' := [(5, .int x1), (0, va_rf v0), (1, .int v1), (4, .int v4)]) d_M_monthsOn_57 (Nat.le_of_ble_eq_true rfl) rfl ?_
      refine gk_iload (pc := 59) 3 d_M_monthsOn_59 rfl ?_
      refine gk_bipush (pc := 61) (12 : Int32) d_M_monthsOn_61 rfl ?_
      refine gk_irem (pc := 63) (by decide) d_M_monthsOn_63 ?_
      refine gk_iconst (pc := 64) (1 : Int32) d_M_monthsOn_64 rfl ?_
      refine gk_iadd (pc := 65) d_M_monthsOn_65 ?_
      refine gk_topI (pc := 66) fun x2 => ?_
      refine gk_istore (pc := 66) (L' := [(4, .int x2), (5, .int x1), (0, va_rf v0), (1, .int v1)]) d_M_monthsOn_66 (Nat.le_of_ble_eq_true rfl) rfl ?_
      refine gk_iload (pc := 68) 1 d_M_monthsOn_68 rfl ?_
      refine gk_sipush (pc := 70) (1900 : Int32) d_M_monthsOn_70 rfl ?_
      refine gk_icmp_ge (pc := 73) 83 d_M_monthsOn_73 rfl (fun _ => ?_) (fun _ => ?_)
      · refine gk_iload (pc := 83) 1 d_M_monthsOn_83 rfl ?_
        refine gk_iload (pc := 85) 0 d_M_monthsOn_85 rfl ?_
        refine gk_callS (pc := 87) (d := (d + 2)) (w' := gv_I) (as := [.int x1, .int x2]) (n := 2) d_M_monthsOn_87 rfl rfl (Nat.le_of_ble_eq_true rfl) tw_2156 tw_2157 tw_99 cw_M_monthLong hy_M_monthLong (Nat.le_of_ble_eq_true rfl) (p_M_monthLong (d + 1) x1 x2 h) fun x3 h1 => ?_
        refine gk_istore (pc := 90) (L' := [(6, .int x3), (4, .int x2), (5, .int x1), (0, va_rf v0), (1, .int v1)]) d_M_monthsOn_90 (Nat.le_of_ble_eq_true rfl) rfl ?_
        refine gk_aload_n (pc := 92) 3 d_M_monthsOn_92 rfl ?_
        refine gk_iload (pc := 93) 2 d_M_monthsOn_93 rfl ?_
        refine gk_iload (pc := 95) 1 d_M_monthsOn_95 rfl ?_
        refine gk_callS (pc := 97) (d := (d + 2)) (w' := gv_I) (as := [.int x1, .int x2]) (n := 2) d_M_monthsOn_97 rfl rfl (by simp [gk_cat_rf, gk_catI, gk_catJ, gk_catD, gv_V, gv_I, gv_J, gv_D, gv_R]) tw_2150 tw_2151 tw_99 cw_M_firstOf hy_M_firstOf (Nat.le_of_ble_eq_true rfl) (p_M_firstOf d x1 x2 h1) fun x4 h2 => ?_
        refine gk_iload_n (pc := 100) 4 d_M_monthsOn_100 rfl ?_
        refine gk_if_ne (pc := 101) 113 d_M_monthsOn_101 rfl (fun _ => ?_) (fun _ => ?_)
        · refine gk_aload_n (pc := 104) 3 d_M_monthsOn_104 rfl ?_
          refine gk_getI (pc := 105) 7 24 d_M_monthsOn_105 rfl (Nat.le_of_ble_eq_true rfl) tw_1669 fun x5 => ?_
          refine gk_iload (pc := 108) 0 d_M_monthsOn_108 rfl ?_
          refine gk_icmp_le (pc := 110) 118 d_M_monthsOn_110 rfl (fun _ => ?_) (fun _ => ?_)
          · refine gk_aload_n (pc := 118) 3 d_M_monthsOn_118 rfl ?_
            refine gk_getI (pc := 119) 7 24 d_M_monthsOn_119 rfl (Nat.le_of_ble_eq_true rfl) tw_1669 fun x6 => ?_
            refine gk_weak [] (L' := []) rfl ?_
            exact p_M_monthsOn_b122 d v0 x4 x6 h2
          · refine gk_weak [0] (L' := [(6, .int x3)]) rfl ?_
            exact p_M_monthsOn_b113 d x3 v0 x4 h2
        · refine gk_weak [0] (L' := [(6, .int x3)]) rfl ?_
          exact p_M_monthsOn_b113 d x3 v0 x4 h2
      · refine gk_aload_n (pc := 76) 2 d_M_monthsOn_76 rfl ?_
        refine gk_bipush (pc := 77) (6 : Int32) d_M_monthsOn_77 rfl ?_
        refine gk_callV (pc := 79) (d := (d + 2)) (w' := gv_V) (as := [.int (6 : Int32)]) (n := 1) 7 d_M_monthsOn_79 rfl rfl rfl rfl (Nat.le_of_ble_eq_true rfl) tw_1805 tw_1807 tw_21 tw_99 cw_M_fail hy_M_fail (Nat.le_of_ble_eq_true rfl) (p_M_fail (d + 2) v0 (6 : Int32) h) fun _ h3 => ?_
        exact gk_vret (pc := 82) rfl d_M_monthsOn_82 rfl
    · refine gk_iload (pc := 36) 2 d_M_monthsOn_36 rfl ?_
      refine gk_bipush (pc := 38) (12 : Int32) d_M_monthsOn_38 rfl ?_
      refine gk_iadd (pc := 40) d_M_monthsOn_40 ?_
      refine gk_topI (pc := 41) fun x7 => ?_
      refine gk_istore (pc := 41) (L' := [(4, .int x7), (0, va_rf v0), (1, .int v1), (5, .int v5)]) d_M_monthsOn_41 (Nat.le_of_ble_eq_true rfl) rfl ?_
      refine gk_iincN (pc := 43) 3 (-1 : Int32) (L' := fun x8 => [(5, .int x8), (4, .int x7), (0, va_rf v0), (1, .int v1)]) d_M_monthsOn_43 rfl rfl (Nat.le_of_ble_eq_true rfl) (fun _ => rfl) fun x8 => ?_
      refine gk_goto (pc := 46) 31 d_M_monthsOn_46 rfl ?_
      refine gk_weak [2, 3, 1, 0] (L' := [(0, va_rf v0), (1, .int v1), (4, .int x7), (5, .int x8)]) rfl ?_
      exact q31 v0 v1 x7 x8 h
theorem w_M_monthsOn (d : Nat) (a0 : Option Nat) (a1 : Int32) (a2 : Int64) (h : gk_H) : gk_P gw_V (d + 3) y_M_monthsOn b_M_monthsOn 7 none [] (f_M_monthsOn a0 a1 a2 h) 0 [(0, va_rf a0), (1, .int a1), (2, .long a2)] [] h := by
  unfold f_M_monthsOn
  refine gk_lload_n (pc := 0) 2 d_M_monthsOn_0 rfl ?_
  refine gk_callS (pc := 1) (d := (d + 2)) (w' := gv_I) (as := [.long a2]) (n := 1) d_M_monthsOn_1 rfl rfl (Nat.le_of_ble_eq_true rfl) tw_2145 tw_2146 tw_99 cw_M_isShort hy_M_isShort (Nat.le_of_ble_eq_true rfl) (p_M_isShort (d + 2) a2 h) fun x1 h1 => ?_
  refine gk_if_ne (pc := 4) 14 d_M_monthsOn_4 rfl (fun _ => ?_) (fun _ => ?_)
  · refine gk_aload_n (pc := 7) 0 d_M_monthsOn_7 rfl ?_
    refine gk_bipush (pc := 8) (6 : Int32) d_M_monthsOn_8 rfl ?_
    refine gk_callV (pc := 10) (d := (d + 2)) (w' := gv_V) (as := [.int (6 : Int32)]) (n := 1) 7 d_M_monthsOn_10 rfl rfl rfl rfl (Nat.le_of_ble_eq_true rfl) tw_1805 tw_1807 tw_21 tw_99 cw_M_fail hy_M_fail (Nat.le_of_ble_eq_true rfl) (p_M_fail (d + 2) a0 (6 : Int32) h1) fun _ h2 => ?_
    exact gk_vret (pc := 13) rfl d_M_monthsOn_13 rfl
  · refine gk_aload_n (pc := 14) 0 d_M_monthsOn_14 rfl ?_
    refine gk_getI (pc := 15) 7 23 d_M_monthsOn_15 rfl (Nat.le_of_ble_eq_true rfl) tw_1668 fun x2 => ?_
    refine gk_iconst (pc := 18) (1 : Int32) d_M_monthsOn_18 rfl ?_
    refine gk_isub (pc := 19) d_M_monthsOn_19 ?_
    refine gk_lload_n (pc := 20) 2 d_M_monthsOn_20 rfl ?_
    refine gk_l2i (pc := 21) d_M_monthsOn_21 ?_
    refine gk_iadd (pc := 22) d_M_monthsOn_22 ?_
    refine gk_topI (pc := 23) fun x3 => ?_
    refine gk_istore (pc := 23) (L' := [(4, .int x3), (0, va_rf a0), (1, .int a1), (2, .long a2)]) d_M_monthsOn_23 (Nat.le_of_ble_eq_true rfl) rfl ?_
    refine gk_aload_n (pc := 25) 1 d_M_monthsOn_25 rfl ?_
    refine gk_getI (pc := 26) 7 22 d_M_monthsOn_26 rfl (Nat.le_of_ble_eq_true rfl) tw_1667 fun x4 => ?_
    refine gk_istore (pc := 29) (L' := [(5, .int x4), (4, .int x3), (0, va_rf a0), (1, .int a1), (2, .long a2)]) d_M_monthsOn_29 (Nat.le_of_ble_eq_true rfl) rfl ?_
    refine gk_weak [2, 3, 1, 0] (L' := [(0, va_rf a0), (1, .int a1), (4, .int x3), (5, .int x4)]) rfl ?_
    exact p_M_monthsOn_b31 d gk_F a0 a1 x3 x4 h1
theorem p_M_monthsOn (d : Nat) (a0 : Option Nat) (a1 : Int32) (a2 : Int64) (h : gk_H) : ∀ r h1, f_M_monthsOn a0 a1 a2 h = some (r, h1) → gk_M (d + 3) y_M_monthsOn b_M_monthsOn 7 none [va_rf a0, .int a1, .long a2] h (.inl (gv_V r)) h1 :=
  fun r h1 e => gk_M_of2 (by decide +kernel) (by simp [lv_args, gk_cat_rf, gk_catI, gk_catJ, gk_catD, gv_V, gv_I, gv_J, gv_D, gv_R]) (by simp [lg_sl, gk_cat_rf, gk_catI, gk_catJ, gk_catD, gv_V, gv_I, gv_J, gv_D, gv_R]) (w_M_monthsOn d a0 a1 a2 h r h1 e)
