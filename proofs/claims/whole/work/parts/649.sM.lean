theorem d_M_ofThree_0 : decode b_M_ofThree 0 = .ok (.aload_n 0, 1) := by decide +kernel
theorem d_M_ofThree_1 : decode b_M_ofThree 1 = .ok (.iload_n 2, 1) := by decide +kernel
theorem d_M_ofThree_2 : decode b_M_ofThree 2 = .ok (.invokevirtual 296, 3) := by decide +kernel
theorem d_M_ofThree_5 : decode b_M_ofThree 5 = .ok (.lstore_n 3, 1) := by decide +kernel
theorem d_M_ofThree_6 : decode b_M_ofThree 6 = .ok (.aload_n 0, 1) := by decide +kernel
theorem d_M_ofThree_7 : decode b_M_ofThree 7 = .ok (.iload_n 2, 1) := by decide +kernel
theorem d_M_ofThree_8 : decode b_M_ofThree 8 = .ok (.iconst 1, 1) := by decide +kernel
theorem d_M_ofThree_9 : decode b_M_ofThree 9 = .ok (.iadd, 1) := by decide +kernel
theorem d_M_ofThree_10 : decode b_M_ofThree 10 = .ok (.invokevirtual 296, 3) := by decide +kernel
theorem d_M_ofThree_13 : decode b_M_ofThree 13 = .ok (.lstore 5, 2) := by decide +kernel
theorem d_M_ofThree_15 : decode b_M_ofThree 15 = .ok (.aload_n 0, 1) := by decide +kernel
theorem d_M_ofThree_16 : decode b_M_ofThree 16 = .ok (.iload_n 2, 1) := by decide +kernel
theorem d_M_ofThree_17 : decode b_M_ofThree 17 = .ok (.iconst 2, 1) := by decide +kernel
theorem d_M_ofThree_18 : decode b_M_ofThree 18 = .ok (.iadd, 1) := by decide +kernel
theorem d_M_ofThree_19 : decode b_M_ofThree 19 = .ok (.invokevirtual 296, 3) := by decide +kernel
theorem d_M_ofThree_22 : decode b_M_ofThree 22 = .ok (.lstore 7, 2) := by decide +kernel
theorem d_M_ofThree_24 : decode b_M_ofThree 24 = .ok (.aload_n 0, 1) := by decide +kernel
theorem d_M_ofThree_25 : decode b_M_ofThree 25 = .ok (.getfield 62, 3) := by decide +kernel
theorem d_M_ofThree_28 : decode b_M_ofThree 28 = .ok (.ifCond .le 4, 3) := by decide +kernel
theorem d_M_ofThree_31 : decode b_M_ofThree 31 = .ok (.return_, 1) := by decide +kernel
theorem d_M_ofThree_32 : decode b_M_ofThree 32 = .ok (.iload_n 1, 1) := by decide +kernel
theorem d_M_ofThree_33 : decode b_M_ofThree 33 = .ok (.bipush 88, 2) := by decide +kernel
theorem d_M_ofThree_35 : decode b_M_ofThree 35 = .ok (.if_icmp .ne 88, 3) := by decide +kernel
theorem d_M_ofThree_38 : decode b_M_ofThree 38 = .ok (.lload_n 3, 1) := by decide +kernel
theorem d_M_ofThree_39 : decode b_M_ofThree 39 = .ok (.lconst 0, 1) := by decide +kernel
theorem d_M_ofThree_40 : decode b_M_ofThree 40 = .ok (.lcmp, 1) := by decide +kernel
theorem d_M_ofThree_41 : decode b_M_ofThree 41 = .ok (.ifCond .lt 43, 3) := by decide +kernel
theorem d_M_ofThree_44 : decode b_M_ofThree 44 = .ok (.lload 5, 2) := by decide +kernel
theorem d_M_ofThree_46 : decode b_M_ofThree 46 = .ok (.lconst 0, 1) := by decide +kernel
theorem d_M_ofThree_47 : decode b_M_ofThree 47 = .ok (.lcmp, 1) := by decide +kernel
theorem d_M_ofThree_48 : decode b_M_ofThree 48 = .ok (.ifCond .lt 36, 3) := by decide +kernel
theorem d_M_ofThree_51 : decode b_M_ofThree 51 = .ok (.lload 7, 2) := by decide +kernel
theorem d_M_ofThree_53 : decode b_M_ofThree 53 = .ok (.lconst 0, 1) := by decide +kernel
theorem d_M_ofThree_54 : decode b_M_ofThree 54 = .ok (.lcmp, 1) := by decide +kernel
theorem d_M_ofThree_55 : decode b_M_ofThree 55 = .ok (.ifCond .lt 29, 3) := by decide +kernel
theorem d_M_ofThree_58 : decode b_M_ofThree 58 = .ok (.lload_n 3, 1) := by decide +kernel
theorem d_M_ofThree_59 : decode b_M_ofThree 59 = .ok (.ldc2_w 444, 3) := by decide +kernel
theorem d_M_ofThree_62 : decode b_M_ofThree 62 = .ok (.lcmp, 1) := by decide +kernel
theorem d_M_ofThree_63 : decode b_M_ofThree 63 = .ok (.ifCond .gt 21, 3) := by decide +kernel
theorem d_M_ofThree_66 : decode b_M_ofThree 66 = .ok (.lload 5, 2) := by decide +kernel
theorem d_M_ofThree_68 : decode b_M_ofThree 68 = .ok (.ldc2_w 444, 3) := by decide +kernel
theorem d_M_ofThree_71 : decode b_M_ofThree 71 = .ok (.lcmp, 1) := by decide +kernel
theorem d_M_ofThree_72 : decode b_M_ofThree 72 = .ok (.ifCond .gt 12, 3) := by decide +kernel
theorem d_M_ofThree_75 : decode b_M_ofThree 75 = .ok (.lload 7, 2) := by decide +kernel
theorem d_M_ofThree_77 : decode b_M_ofThree 77 = .ok (.ldc2_w 444, 3) := by decide +kernel
theorem d_M_ofThree_80 : decode b_M_ofThree 80 = .ok (.lcmp, 1) := by decide +kernel
theorem d_M_ofThree_81 : decode b_M_ofThree 81 = .ok (.ifCond .le 9, 3) := by decide +kernel
theorem d_M_ofThree_84 : decode b_M_ofThree 84 = .ok (.aload_n 0, 1) := by decide +kernel
theorem d_M_ofThree_85 : decode b_M_ofThree 85 = .ok (.bipush 6, 2) := by decide +kernel
theorem d_M_ofThree_87 : decode b_M_ofThree 87 = .ok (.invokevirtual 58, 3) := by decide +kernel
theorem d_M_ofThree_90 : decode b_M_ofThree 90 = .ok (.ldc2_w 465, 3) := by decide +kernel
theorem d_M_ofThree_93 : decode b_M_ofThree 93 = .ok (.lload_n 3, 1) := by decide +kernel
theorem d_M_ofThree_94 : decode b_M_ofThree 94 = .ok (.lmul, 1) := by decide +kernel
theorem d_M_ofThree_95 : decode b_M_ofThree 95 = .ok (.ldc2_w 467, 3) := by decide +kernel
theorem d_M_ofThree_98 : decode b_M_ofThree 98 = .ok (.lload 5, 2) := by decide +kernel
theorem d_M_ofThree_100 : decode b_M_ofThree 100 = .ok (.lmul, 1) := by decide +kernel
theorem d_M_ofThree_101 : decode b_M_ofThree 101 = .ok (.ladd, 1) := by decide +kernel
theorem d_M_ofThree_102 : decode b_M_ofThree 102 = .ok (.lload 7, 2) := by decide +kernel
theorem d_M_ofThree_104 : decode b_M_ofThree 104 = .ok (.ladd, 1) := by decide +kernel
theorem d_M_ofThree_105 : decode b_M_ofThree 105 = .ok (.lstore 9, 2) := by decide +kernel
theorem d_M_ofThree_107 : decode b_M_ofThree 107 = .ok (.aload_n 0, 1) := by decide +kernel
theorem d_M_ofThree_108 : decode b_M_ofThree 108 = .ok (.lload 9, 2) := by decide +kernel
theorem d_M_ofThree_110 : decode b_M_ofThree 110 = .ok (.ldc2_w 469, 3) := by decide +kernel
theorem d_M_ofThree_113 : decode b_M_ofThree 113 = .ok (.lrem, 1) := by decide +kernel
theorem d_M_ofThree_114 : decode b_M_ofThree 114 = .ok (.l2d, 1) := by decide +kernel
theorem d_M_ofThree_115 : decode b_M_ofThree 115 = .ok (.ldc2_w 471, 3) := by decide +kernel
theorem d_M_ofThree_118 : decode b_M_ofThree 118 = .ok (.ddiv, 1) := by decide +kernel
theorem d_M_ofThree_119 : decode b_M_ofThree 119 = .ok (.invokevirtual 207, 3) := by decide +kernel
theorem d_M_ofThree_122 : decode b_M_ofThree 122 = .ok (.return_, 1) := by decide +kernel
theorem d_M_ofThree_123 : decode b_M_ofThree 123 = .ok (.lload_n 3, 1) := by decide +kernel
theorem d_M_ofThree_124 : decode b_M_ofThree 124 = .ok (.invokestatic 473, 3) := by decide +kernel
theorem d_M_ofThree_127 : decode b_M_ofThree 127 = .ok (.ifCond .eq 19, 3) := by decide +kernel
theorem d_M_ofThree_130 : decode b_M_ofThree 130 = .ok (.lload 5, 2) := by decide +kernel
theorem d_M_ofThree_132 : decode b_M_ofThree 132 = .ok (.invokestatic 473, 3) := by decide +kernel
theorem d_M_ofThree_135 : decode b_M_ofThree 135 = .ok (.ifCond .eq 11, 3) := by decide +kernel
theorem d_M_ofThree_138 : decode b_M_ofThree 138 = .ok (.lload 7, 2) := by decide +kernel
theorem d_M_ofThree_140 : decode b_M_ofThree 140 = .ok (.invokestatic 473, 3) := by decide +kernel
theorem d_M_ofThree_143 : decode b_M_ofThree 143 = .ok (.ifCond .ne 10, 3) := by decide +kernel
theorem d_M_ofThree_146 : decode b_M_ofThree 146 = .ok (.aload_n 0, 1) := by decide +kernel
theorem d_M_ofThree_147 : decode b_M_ofThree 147 = .ok (.bipush 6, 2) := by decide +kernel
theorem d_M_ofThree_149 : decode b_M_ofThree 149 = .ok (.invokevirtual 58, 3) := by decide +kernel
theorem d_M_ofThree_152 : decode b_M_ofThree 152 = .ok (.return_, 1) := by decide +kernel
theorem d_M_ofThree_153 : decode b_M_ofThree 153 = .ok (.lload_n 3, 1) := by decide +kernel
theorem d_M_ofThree_154 : decode b_M_ofThree 154 = .ok (.ldc2_w 477, 3) := by decide +kernel
theorem d_M_ofThree_157 : decode b_M_ofThree 157 = .ok (.lcmp, 1) := by decide +kernel
theorem d_M_ofThree_158 : decode b_M_ofThree 158 = .ok (.ifCond .ge 11, 3) := by decide +kernel
theorem d_M_ofThree_161 : decode b_M_ofThree 161 = .ok (.lload_n 3, 1) := by decide +kernel
theorem d_M_ofThree_162 : decode b_M_ofThree 162 = .ok (.ldc2_w 477, 3) := by decide +kernel
theorem d_M_ofThree_165 : decode b_M_ofThree 165 = .ok (.ladd, 1) := by decide +kernel
theorem d_M_ofThree_166 : decode b_M_ofThree 166 = .ok (.goto 4, 3) := by decide +kernel
theorem d_M_ofThree_169 : decode b_M_ofThree 169 = .ok (.lload_n 3, 1) := by decide +kernel
theorem d_M_ofThree_170 : decode b_M_ofThree 170 = .ok (.l2i, 1) := by decide +kernel
theorem d_M_ofThree_171 : decode b_M_ofThree 171 = .ok (.istore 9, 2) := by decide +kernel
theorem d_M_ofThree_173 : decode b_M_ofThree 173 = .ok (.lload 5, 2) := by decide +kernel
theorem d_M_ofThree_175 : decode b_M_ofThree 175 = .ok (.l2i, 1) := by decide +kernel
theorem d_M_ofThree_176 : decode b_M_ofThree 176 = .ok (.iconst 1, 1) := by decide +kernel
theorem d_M_ofThree_177 : decode b_M_ofThree 177 = .ok (.isub, 1) := by decide +kernel
theorem d_M_ofThree_178 : decode b_M_ofThree 178 = .ok (.istore 10, 2) := by decide +kernel
theorem d_M_ofThree_180 : decode b_M_ofThree 180 = .ok (.iload 10, 2) := by decide +kernel
theorem d_M_ofThree_182 : decode b_M_ofThree 182 = .ok (.ifCond .ge 16, 3) := by decide +kernel
theorem d_M_ofThree_185 : decode b_M_ofThree 185 = .ok (.iload 10, 2) := by decide +kernel
theorem d_M_ofThree_187 : decode b_M_ofThree 187 = .ok (.bipush 12, 2) := by decide +kernel
theorem d_M_ofThree_189 : decode b_M_ofThree 189 = .ok (.iadd, 1) := by decide +kernel
theorem d_M_ofThree_190 : decode b_M_ofThree 190 = .ok (.istore 10, 2) := by decide +kernel
theorem d_M_ofThree_192 : decode b_M_ofThree 192 = .ok (.iinc 9 (-1), 3) := by decide +kernel
theorem d_M_ofThree_195 : decode b_M_ofThree 195 = .ok (.goto (-15), 3) := by decide +kernel
theorem d_M_ofThree_198 : decode b_M_ofThree 198 = .ok (.iload 9, 2) := by decide +kernel
theorem d_M_ofThree_200 : decode b_M_ofThree 200 = .ok (.iload 10, 2) := by decide +kernel
theorem d_M_ofThree_202 : decode b_M_ofThree 202 = .ok (.bipush 12, 2) := by decide +kernel
theorem d_M_ofThree_204 : decode b_M_ofThree 204 = .ok (.idiv, 1) := by decide +kernel
theorem d_M_ofThree_205 : decode b_M_ofThree 205 = .ok (.iadd, 1) := by decide +kernel
theorem d_M_ofThree_206 : decode b_M_ofThree 206 = .ok (.istore 9, 2) := by decide +kernel
theorem d_M_ofThree_208 : decode b_M_ofThree 208 = .ok (.iload 9, 2) := by decide +kernel
theorem d_M_ofThree_210 : decode b_M_ofThree 210 = .ok (.sipush 1900, 3) := by decide +kernel
theorem d_M_ofThree_213 : decode b_M_ofThree 213 = .ok (.if_icmp .ge 12, 3) := by decide +kernel
theorem d_M_ofThree_216 : decode b_M_ofThree 216 = .ok (.aload_n 0, 1) := by decide +kernel
theorem d_M_ofThree_217 : decode b_M_ofThree 217 = .ok (.bipush 6, 2) := by decide +kernel
theorem d_M_ofThree_219 : decode b_M_ofThree 219 = .ok (.invokevirtual 58, 3) := by decide +kernel
theorem d_M_ofThree_222 : decode b_M_ofThree 222 = .ok (.goto 25, 3) := by decide +kernel
theorem d_M_ofThree_225 : decode b_M_ofThree 225 = .ok (.aload_n 0, 1) := by decide +kernel
theorem d_M_ofThree_226 : decode b_M_ofThree 226 = .ok (.iload 9, 2) := by decide +kernel
theorem d_M_ofThree_228 : decode b_M_ofThree 228 = .ok (.iload 10, 2) := by decide +kernel
theorem d_M_ofThree_230 : decode b_M_ofThree 230 = .ok (.bipush 12, 2) := by decide +kernel
theorem d_M_ofThree_232 : decode b_M_ofThree 232 = .ok (.irem, 1) := by decide +kernel
theorem d_M_ofThree_233 : decode b_M_ofThree 233 = .ok (.iconst 1, 1) := by decide +kernel
theorem d_M_ofThree_234 : decode b_M_ofThree 234 = .ok (.iadd, 1) := by decide +kernel
theorem d_M_ofThree_235 : decode b_M_ofThree 235 = .ok (.invokestatic 479, 3) := by decide +kernel
theorem d_M_ofThree_238 : decode b_M_ofThree 238 = .ok (.i2l, 1) := by decide +kernel
theorem d_M_ofThree_239 : decode b_M_ofThree 239 = .ok (.lload 7, 2) := by decide +kernel
theorem d_M_ofThree_241 : decode b_M_ofThree 241 = .ok (.ladd, 1) := by decide +kernel
theorem d_M_ofThree_242 : decode b_M_ofThree 242 = .ok (.lconst 1, 1) := by decide +kernel
theorem d_M_ofThree_243 : decode b_M_ofThree 243 = .ok (.lsub, 1) := by decide +kernel
theorem d_M_ofThree_244 : decode b_M_ofThree 244 = .ok (.invokevirtual 482, 3) := by decide +kernel
theorem d_M_ofThree_247 : decode b_M_ofThree 247 = .ok (.return_, 1) := by decide +kernel
theorem p_M_ofThree_b146 (d : Nat)  (v0 : Option Nat) (h : gk_H) : gk_P gw_V (d + 5) y_M_ofThree b_M_ofThree 11 none [] (f_M_ofThree_b146  v0 h) 146 [(0, va_rf v0)] [] h := by
  unfold f_M_ofThree_b146
  refine gk_aload_n (pc := 146) 0 d_M_ofThree_146 rfl ?_
  refine gk_bipush (pc := 147) (6 : Int32) d_M_ofThree_147 rfl ?_
  refine gk_callV (pc := 149) (d := (d + 4)) (w' := gv_V) (as := [.int (6 : Int32)]) (n := 1) 7 d_M_ofThree_149 rfl rfl rfl rfl (Nat.le_of_ble_eq_true rfl) tw_1805 tw_1807 tw_21 tw_99 cw_M_fail hy_M_fail (Nat.le_of_ble_eq_true rfl) (p_M_fail (d + 4) v0 (6 : Int32) h) fun _ h1 => ?_
  exact gk_vret (pc := 152) rfl d_M_ofThree_152 rfl
theorem p_M_ofThree_b247 (d : Nat)   (h : gk_H) : gk_P gw_V (d + 5) y_M_ofThree b_M_ofThree 11 none [] (f_M_ofThree_b247   h) 247 [] [] h := by
  unfold f_M_ofThree_b247
  exact gk_vret (pc := 247) rfl d_M_ofThree_247 rfl
theorem p_M_ofThree_b180 (d : Nat)  : ∀ (fu : Nat) (v0 : Option Nat) (v7 : Int64) (v9 : Int32) (v10 : Int32) (h : gk_H), gk_P gw_V (d + 5) y_M_ofThree b_M_ofThree 11 none [] (f_M_ofThree_b180  fu v0 v7 v9 v10 h) 180 [(0, va_rf v0), (7, .long v7), (9, .int v9), (10, .int v10)] [] h := by
  intro fu
  induction fu with
  | zero => intros; exact gk_none
  | succ fu q180 =>
    intro v0 v7 v9 v10 h
    rw [f_M_ofThree_b180]
    refine gk_iload (pc := 180) 3 d_M_ofThree_180 rfl ?_
    refine gk_if_ge (pc := 182) 198 d_M_ofThree_182 rfl (fun _ => ?_) (fun _ => ?_)
    · refine gk_iload (pc := 198) 2 d_M_ofThree_198 rfl ?_
      refine gk_iload (pc := 200) 3 d_M_ofThree_200 rfl ?_
      refine gk_bipush (pc := 202) (12 : Int32) d_M_ofThree_202 rfl ?_
      refine gk_idiv (pc := 204) (by decide) d_M_ofThree_204 ?_
      refine gk_iadd (pc := 205) d_M_ofThree_205 ?_
      refine gk_topI (pc := 206) fun x1 => ?_
      refine gk_istore (pc := 206) (L' := [(9, .int x1), (0, va_rf v0), (7, .long v7), (10, .int v10)]) d_M_ofThree_206 (Nat.le_of_ble_eq_true rfl) rfl ?_
      refine gk_iload (pc := 208) 0 d_M_ofThree_208 rfl ?_
      refine gk_sipush (pc := 210) (1900 : Int32) d_M_ofThree_210 rfl ?_
      refine gk_icmp_ge (pc := 213) 225 d_M_ofThree_213 rfl (fun _ => ?_) (fun _ => ?_)
      · refine gk_aload_n (pc := 225) 1 d_M_ofThree_225 rfl ?_
        refine gk_iload (pc := 226) 0 d_M_ofThree_226 rfl ?_
        refine gk_iload (pc := 228) 3 d_M_ofThree_228 rfl ?_
        refine gk_bipush (pc := 230) (12 : Int32) d_M_ofThree_230 rfl ?_
        refine gk_irem (pc := 232) (by decide) d_M_ofThree_232 ?_
        refine gk_iconst (pc := 233) (1 : Int32) d_M_ofThree_233 rfl ?_
        refine gk_iadd (pc := 234) d_M_ofThree_234 ?_
        refine gk_callS (pc := 235) (d := (d + 4)) (w' := gv_I) (as := [.int x1, .int ((v10 - v10 / (12 : Int32) * (12 : Int32)) + (1 : Int32))]) (n := 2) d_M_ofThree_235 rfl rfl (by simp [gk_cat_rf, gk_catI, gk_catJ, gk_catD, gv_V, gv_I, gv_J, gv_D, gv_R]) tw_2150 tw_2151 tw_99 cw_M_firstOf hy_M_firstOf (Nat.le_of_ble_eq_true rfl) (p_M_firstOf (d + 2) x1 ((v10 - v10 / (12 : Int32) * (12 : Int32)) + (1 : Int32)) h) fun x2 h1 => ?_
        refine gk_i2l (pc := 238) d_M_ofThree_238 ?_
        refine gk_lload (pc := 239) 2 d_M_ofThree_239 rfl ?_
        refine gk_ladd (pc := 241) d_M_ofThree_241 ?_
        refine gk_lconst (pc := 242) (1 : Int64) d_M_ofThree_242 rfl ?_
        refine gk_lsub (pc := 243) d_M_ofThree_243 ?_
        refine gk_callV (pc := 244) (d := (d + 4)) (w' := gv_V) (as := [.long (((Int32.toInt64 x2) + v7) - (1 : Int64))]) (n := 1) 7 d_M_ofThree_244 rfl rfl rfl rfl (Nat.le_of_ble_eq_true rfl) tw_2159 tw_2161 tw_86 tw_99 cw_M_answerDay hy_M_answerDay (Nat.le_of_ble_eq_true rfl) (p_M_answerDay (d + 2) v0 (((Int32.toInt64 x2) + v7) - (1 : Int64)) h1) fun _ h2 => ?_
        refine gk_weak [] (L' := []) rfl ?_
        exact p_M_ofThree_b247 d h2
      · refine gk_aload_n (pc := 216) 1 d_M_ofThree_216 rfl ?_
        refine gk_bipush (pc := 217) (6 : Int32) d_M_ofThree_217 rfl ?_
        refine gk_callV (pc := 219) (d := (d + 4)) (w' := gv_V) (as := [.int (6 : Int32)]) (n := 1) 7 d_M_ofThree_219 rfl rfl rfl rfl (Nat.le_of_ble_eq_true rfl) tw_1805 tw_1807 tw_21 tw_99 cw_M_fail hy_M_fail (Nat.le_of_ble_eq_true rfl) (p_M_fail (d + 4) v0 (6 : Int32) h) fun _ h3 => ?_
        refine gk_goto (pc := 222) 247 d_M_ofThree_222 rfl ?_
        refine gk_weak [] (L' := []) rfl ?_
        exact p_M_ofThree_b247 d h3
    · refine gk_iload (pc := 185) 3 d_M_ofThree_185 rfl ?_
      refine gk_bipush (pc := 187) (12 : Int32) d_M_ofThree_187 rfl ?_
      refine gk_iadd (pc := 189) d_M_ofThree_189 ?_
      refine gk_topI (pc := 190) fun x3 => ?_
      refine gk_istore (pc := 190) (L' := [(10, .int x3), (0, va_rf v0), (7, .long v7), (9, .int v9)]) d_M_ofThree_190 (Nat.le_of_ble_eq_true rfl) rfl ?_
      refine gk_iincN (pc := 192) 3 (-1 : Int32) (L' := fun x4 => [(9, .int x4), (10, .int x3), (0, va_rf v0), (7, .long v7)]) d_M_ofThree_192 rfl rfl (Nat.le_of_ble_eq_true rfl) (fun _ => rfl) fun x4 => ?_
      refine gk_goto (pc := 195) 180 d_M_ofThree_195 rfl ?_
      refine gk_weak [2, 3, 0, 1] (L' := [(0, va_rf v0), (7, .long v7), (9, .int x4), (10, .int x3)]) rfl ?_
      exact q180 v0 v7 x4 x3 h
theorem p_M_ofThree_b170 (d : Nat)  (v0 : Option Nat) (v5 : Int64) (v7 : Int64) (s0 : Int64) (h : gk_H) : gk_P gw_V (d + 5) y_M_ofThree b_M_ofThree 11 none [] (f_M_ofThree_b170  v0 v5 v7 s0 h) 170 [(0, va_rf v0), (5, .long v5), (7, .long v7)] [.long s0] h := by
  unfold f_M_ofThree_b170
  refine gk_l2i (pc := 170) d_M_ofThree_170 ?_
  refine gk_topI (pc := 171) fun x1 => ?_
  refine gk_istore (pc := 171) (L' := [(9, .int x1), (0, va_rf v0), (5, .long v5), (7, .long v7)]) d_M_ofThree_171 (Nat.le_of_ble_eq_true rfl) rfl ?_
  refine gk_lload (pc := 173) 2 d_M_ofThree_173 rfl ?_
  refine gk_l2i (pc := 175) d_M_ofThree_175 ?_
  refine gk_iconst (pc := 176) (1 : Int32) d_M_ofThree_176 rfl ?_
  refine gk_isub (pc := 177) d_M_ofThree_177 ?_
  refine gk_topI (pc := 178) fun x2 => ?_
  refine gk_istore (pc := 178) (L' := [(10, .int x2), (9, .int x1), (0, va_rf v0), (5, .long v5), (7, .long v7)]) d_M_ofThree_178 (Nat.le_of_ble_eq_true rfl) rfl ?_
  refine gk_weak [2, 4, 1, 0] (L' := [(0, va_rf v0), (7, .long v7), (9, .int x1), (10, .int x2)]) rfl ?_
  exact p_M_ofThree_b180 d gk_F v0 v7 x1 x2 h
theorem p_M_ofThree_b90 (d : Nat)  (v0 : Option Nat) (v3 : Int64) (v5 : Int64) (v7 : Int64) (h : gk_H) : gk_P gw_V (d + 5) y_M_ofThree b_M_ofThree 11 none [] (f_M_ofThree_b90  v0 v3 v5 v7 h) 90 [(0, va_rf v0), (3, .long v3), (5, .long v5), (7, .long v7)] [] h := by
  unfold f_M_ofThree_b90
  refine gk_ldc2 (pc := 90) tw_2141 d_M_ofThree_90 ?_
  refine gk_lload_n (pc := 93) 1 d_M_ofThree_93 rfl ?_
  refine gk_lmul (pc := 94) d_M_ofThree_94 ?_
  refine gk_ldc2 (pc := 95) tw_2142 d_M_ofThree_95 ?_
  refine gk_lload (pc := 98) 2 d_M_ofThree_98 rfl ?_
  refine gk_lmul (pc := 100) d_M_ofThree_100 ?_
  refine gk_ladd (pc := 101) d_M_ofThree_101 ?_
  refine gk_lload (pc := 102) 3 d_M_ofThree_102 rfl ?_
  refine gk_ladd (pc := 104) d_M_ofThree_104 ?_
  refine gk_topJ (pc := 105) fun x1 => ?_
  refine gk_lstore (pc := 105) (L' := [(9, .long x1), (0, va_rf v0), (3, .long v3), (5, .long v5), (7, .long v7)]) d_M_ofThree_105 (Nat.le_of_ble_eq_true rfl) rfl ?_
  refine gk_aload_n (pc := 107) 1 d_M_ofThree_107 rfl ?_
  refine gk_lload (pc := 108) 0 d_M_ofThree_108 rfl ?_
  refine gk_ldc2 (pc := 110) tw_2143 d_M_ofThree_110 ?_
  refine gk_lrem (pc := 113) (by decide) d_M_ofThree_113 ?_
  refine gk_l2d (pc := 114) d_M_ofThree_114 ?_
  refine gk_ldc2d (pc := 115) tw_2144 d_M_ofThree_115 ?_
  refine gk_ddivN (pc := 118) d_M_ofThree_118 fun x2 => ?_
  refine gk_callV (pc := 119) (d := (d + 4)) (w' := gv_V) (as := [.double x2]) (n := 1) 7 d_M_ofThree_119 rfl rfl rfl rfl (Nat.le_of_ble_eq_true rfl) tw_1916 tw_1918 tw_38 tw_99 cw_M_answerNumber hy_M_answerNumber (Nat.le_of_ble_eq_true rfl) (p_M_answerNumber (d + 3) v0 x2 h) fun _ h1 => ?_
  exact gk_vret (pc := 122) rfl d_M_ofThree_122 rfl
theorem p_M_ofThree_b84 (d : Nat)  (v0 : Option Nat) (v3 : Int64) (v5 : Int64) (v7 : Int64) (h : gk_H) : gk_P gw_V (d + 5) y_M_ofThree b_M_ofThree 11 none [] (f_M_ofThree_b84  v0 v3 v5 v7 h) 84 [(0, va_rf v0), (3, .long v3), (5, .long v5), (7, .long v7)] [] h := by
  unfold f_M_ofThree_b84
  refine gk_aload_n (pc := 84) 0 d_M_ofThree_84 rfl ?_
  refine gk_bipush (pc := 85) (6 : Int32) d_M_ofThree_85 rfl ?_
  refine gk_callV (pc := 87) (d := (d + 4)) (w' := gv_V) (as := [.int (6 : Int32)]) (n := 1) 7 d_M_ofThree_87 rfl rfl rfl rfl (Nat.le_of_ble_eq_true rfl) tw_1805 tw_1807 tw_21 tw_99 cw_M_fail hy_M_fail (Nat.le_of_ble_eq_true rfl) (p_M_fail (d + 4) v0 (6 : Int32) h) fun _ h1 => ?_
  exact p_M_ofThree_b90 d v0 v3 v5 v7 h1
theorem w_M_ofThree (d : Nat) (a0 : Option Nat) (a1 : Int32) (a2 : Int32) (h : gk_H) : gk_P gw_V (d + 5) y_M_ofThree b_M_ofThree 11 none [] (f_M_ofThree a0 a1 a2 h) 0 [(0, va_rf a0), (1, .int a1), (2, .int a2)] [] h := by
  unfold f_M_ofThree
  refine gk_aload_n (pc := 0) 0 d_M_ofThree_0 rfl ?_
  refine gk_iload_n (pc := 1) 2 d_M_ofThree_1 rfl ?_
  refine gk_callV (pc := 2) (d := (d + 4)) (w' := gv_J) (as := [.int a2]) (n := 1) 7 d_M_ofThree_2 rfl rfl rfl rfl (Nat.le_of_ble_eq_true rfl) tw_1954 tw_1956 tw_45 tw_99 cw_M_wantWhole hy_M_wantWhole (Nat.le_of_ble_eq_true rfl) (p_M_wantWhole d a0 a2 h) fun x1 h1 => ?_
  refine gk_lstore_n (pc := 5) (L' := [(3, .long x1), (0, va_rf a0), (1, .int a1), (2, .int a2)]) d_M_ofThree_5 (Nat.le_of_ble_eq_true rfl) rfl ?_
  refine gk_aload_n (pc := 6) 1 d_M_ofThree_6 rfl ?_
  refine gk_iload_n (pc := 7) 3 d_M_ofThree_7 rfl ?_
  refine gk_iconst (pc := 8) (1 : Int32) d_M_ofThree_8 rfl ?_
  refine gk_iadd (pc := 9) d_M_ofThree_9 ?_
  refine gk_callV (pc := 10) (d := (d + 4)) (w' := gv_J) (as := [.int (a2 + (1 : Int32))]) (n := 1) 7 d_M_ofThree_10 rfl rfl rfl rfl (Nat.le_of_ble_eq_true rfl) tw_1954 tw_1956 tw_45 tw_99 cw_M_wantWhole hy_M_wantWhole (Nat.le_of_ble_eq_true rfl) (p_M_wantWhole d a0 (a2 + (1 : Int32)) h1) fun x2 h2 => ?_
  refine gk_lstore (pc := 13) (L' := [(5, .long x2), (3, .long x1), (0, va_rf a0), (1, .int a1), (2, .int a2)]) d_M_ofThree_13 (Nat.le_of_ble_eq_true rfl) rfl ?_
  refine gk_aload_n (pc := 15) 2 d_M_ofThree_15 rfl ?_
  refine gk_iload_n (pc := 16) 4 d_M_ofThree_16 rfl ?_
  refine gk_iconst (pc := 17) (2 : Int32) d_M_ofThree_17 rfl ?_
  refine gk_iadd (pc := 18) d_M_ofThree_18 ?_
  refine gk_callV (pc := 19) (d := (d + 4)) (w' := gv_J) (as := [.int (a2 + (2 : Int32))]) (n := 1) 7 d_M_ofThree_19 rfl rfl rfl rfl (Nat.le_of_ble_eq_true rfl) tw_1954 tw_1956 tw_45 tw_99 cw_M_wantWhole hy_M_wantWhole (Nat.le_of_ble_eq_true rfl) (p_M_wantWhole d a0 (a2 + (2 : Int32)) h2) fun x3 h3 => ?_
  refine gk_lstore (pc := 22) (L' := [(7, .long x3), (5, .long x2), (3, .long x1), (0, va_rf a0), (1, .int a1), (2, .int a2)]) d_M_ofThree_22 (Nat.le_of_ble_eq_true rfl) rfl ?_
  refine gk_aload_n (pc := 24) 3 d_M_ofThree_24 rfl ?_
  refine gk_getI (pc := 25) 7 11 d_M_ofThree_25 rfl (Nat.le_of_ble_eq_true rfl) tw_1656 fun x4 => ?_
  refine gk_if_le (pc := 28) 32 d_M_ofThree_28 rfl (fun _ => ?_) (fun _ => ?_)
  · refine gk_iload_n (pc := 32) 4 d_M_ofThree_32 rfl ?_
    refine gk_bipush (pc := 33) (88 : Int32) d_M_ofThree_33 rfl ?_
    refine gk_icmp_ne (pc := 35) 123 d_M_ofThree_35 rfl (fun _ => ?_) (fun _ => ?_)
    · refine gk_lload_n (pc := 38) 2 d_M_ofThree_38 rfl ?_
      refine gk_lconst (pc := 39) (0 : Int64) d_M_ofThree_39 rfl ?_
      refine gk_lcmp (pc := 40) d_M_ofThree_40 ?_
      refine gk_if_lt (pc := 41) 84 d_M_ofThree_41 rfl (fun _ => ?_) (fun _ => ?_)
      · refine gk_weak [3, 2, 1, 0] (L' := [(0, va_rf a0), (3, .long x1), (5, .long x2), (7, .long x3)]) rfl ?_
        exact p_M_ofThree_b84 d a0 x1 x2 x3 h3
      · refine gk_lload (pc := 44) 1 d_M_ofThree_44 rfl ?_
        refine gk_lconst (pc := 46) (0 : Int64) d_M_ofThree_46 rfl ?_
        refine gk_lcmp (pc := 47) d_M_ofThree_47 ?_
        refine gk_if_lt (pc := 48) 84 d_M_ofThree_48 rfl (fun _ => ?_) (fun _ => ?_)
        · refine gk_weak [3, 2, 1, 0] (L' := [(0, va_rf a0), (3, .long x1), (5, .long x2), (7, .long x3)]) rfl ?_
          exact p_M_ofThree_b84 d a0 x1 x2 x3 h3
        · refine gk_lload (pc := 51) 0 d_M_ofThree_51 rfl ?_
          refine gk_lconst (pc := 53) (0 : Int64) d_M_ofThree_53 rfl ?_
          refine gk_lcmp (pc := 54) d_M_ofThree_54 ?_
          refine gk_if_lt (pc := 55) 84 d_M_ofThree_55 rfl (fun _ => ?_) (fun _ => ?_)
          · refine gk_weak [3, 2, 1, 0] (L' := [(0, va_rf a0), (3, .long x1), (5, .long x2), (7, .long x3)]) rfl ?_
            exact p_M_ofThree_b84 d a0 x1 x2 x3 h3
          · refine gk_lload_n (pc := 58) 2 d_M_ofThree_58 rfl ?_
            refine gk_ldc2 (pc := 59) tw_2140 d_M_ofThree_59 ?_
            refine gk_lcmp (pc := 62) d_M_ofThree_62 ?_
            refine gk_if_gt (pc := 63) 84 d_M_ofThree_63 rfl (fun _ => ?_) (fun _ => ?_)
            · refine gk_weak [3, 2, 1, 0] (L' := [(0, va_rf a0), (3, .long x1), (5, .long x2), (7, .long x3)]) rfl ?_
              exact p_M_ofThree_b84 d a0 x1 x2 x3 h3
            · refine gk_lload (pc := 66) 1 d_M_ofThree_66 rfl ?_
              refine gk_ldc2 (pc := 68) tw_2140 d_M_ofThree_68 ?_
              refine gk_lcmp (pc := 71) d_M_ofThree_71 ?_
              refine gk_if_gt (pc := 72) 84 d_M_ofThree_72 rfl (fun _ => ?_) (fun _ => ?_)
              · refine gk_weak [3, 2, 1, 0] (L' := [(0, va_rf a0), (3, .long x1), (5, .long x2), (7, .long x3)]) rfl ?_
                exact p_M_ofThree_b84 d a0 x1 x2 x3 h3
              · refine gk_lload (pc := 75) 0 d_M_ofThree_75 rfl ?_
                refine gk_ldc2 (pc := 77) tw_2140 d_M_ofThree_77 ?_
                refine gk_lcmp (pc := 80) d_M_ofThree_80 ?_
                refine gk_if_le (pc := 81) 90 d_M_ofThree_81 rfl (fun _ => ?_) (fun _ => ?_)
                · refine gk_weak [3, 2, 1, 0] (L' := [(0, va_rf a0), (3, .long x1), (5, .long x2), (7, .long x3)]) rfl ?_
                  exact p_M_ofThree_b90 d a0 x1 x2 x3 h3
                · refine gk_weak [3, 2, 1, 0] (L' := [(0, va_rf a0), (3, .long x1), (5, .long x2), (7, .long x3)]) rfl ?_
                  exact p_M_ofThree_b84 d a0 x1 x2 x3 h3
    · refine gk_lload_n (pc := 123) 2 d_M_ofThree_123 rfl ?_
      refine gk_callS (pc := 124) (d := (d + 4)) (w' := gv_I) (as := [.long x1]) (n := 1) d_M_ofThree_124 rfl rfl (Nat.le_of_ble_eq_true rfl) tw_2145 tw_2146 tw_99 cw_M_isShort hy_M_isShort (Nat.le_of_ble_eq_true rfl) (p_M_isShort (d + 4) x1 h3) fun x5 h4 => ?_
      refine gk_if_eq (pc := 127) 146 d_M_ofThree_127 rfl (fun _ => ?_) (fun _ => ?_)
      · refine gk_weak [3] (L' := [(0, va_rf a0)]) rfl ?_
        exact p_M_ofThree_b146 d a0 h4
      · refine gk_lload (pc := 130) 1 d_M_ofThree_130 rfl ?_
        refine gk_callS (pc := 132) (d := (d + 4)) (w' := gv_I) (as := [.long x2]) (n := 1) d_M_ofThree_132 rfl rfl (Nat.le_of_ble_eq_true rfl) tw_2145 tw_2146 tw_99 cw_M_isShort hy_M_isShort (Nat.le_of_ble_eq_true rfl) (p_M_isShort (d + 4) x2 h4) fun x6 h5 => ?_
        refine gk_if_eq (pc := 135) 146 d_M_ofThree_135 rfl (fun _ => ?_) (fun _ => ?_)
        · refine gk_weak [3] (L' := [(0, va_rf a0)]) rfl ?_
          exact p_M_ofThree_b146 d a0 h5
        · refine gk_lload (pc := 138) 0 d_M_ofThree_138 rfl ?_
          refine gk_callS (pc := 140) (d := (d + 4)) (w' := gv_I) (as := [.long x3]) (n := 1) d_M_ofThree_140 rfl rfl (Nat.le_of_ble_eq_true rfl) tw_2145 tw_2146 tw_99 cw_M_isShort hy_M_isShort (Nat.le_of_ble_eq_true rfl) (p_M_isShort (d + 4) x3 h5) fun x7 h6 => ?_
          refine gk_if_ne (pc := 143) 153 d_M_ofThree_143 rfl (fun _ => ?_) (fun _ => ?_)
          · refine gk_weak [3] (L' := [(0, va_rf a0)]) rfl ?_
            exact p_M_ofThree_b146 d a0 h6
          · refine gk_lload_n (pc := 153) 2 d_M_ofThree_153 rfl ?_
            refine gk_ldc2 (pc := 154) tw_2149 d_M_ofThree_154 ?_
            refine gk_lcmp (pc := 157) d_M_ofThree_157 ?_
            refine gk_if_ge (pc := 158) 169 d_M_ofThree_158 rfl (fun _ => ?_) (fun _ => ?_)
            · refine gk_lload_n (pc := 169) 2 d_M_ofThree_169 rfl ?_
              refine gk_weak [3, 1, 0] (L' := [(0, va_rf a0), (5, .long x2), (7, .long x3)]) rfl ?_
              exact p_M_ofThree_b170 d a0 x2 x3 x1 h6
            · refine gk_lload_n (pc := 161) 2 d_M_ofThree_161 rfl ?_
              refine gk_ldc2 (pc := 162) tw_2149 d_M_ofThree_162 ?_
              refine gk_ladd (pc := 165) d_M_ofThree_165 ?_
              refine gk_goto (pc := 166) 170 d_M_ofThree_166 rfl ?_
              refine gk_weak [3, 1, 0] (L' := [(0, va_rf a0), (5, .long x2), (7, .long x3)]) rfl ?_
              exact p_M_ofThree_b170 d a0 x2 x3 (x1 + (1900 : Int64)) h6
  · exact gk_vret (pc := 31) rfl d_M_ofThree_31 rfl
theorem p_M_ofThree (d : Nat) (a0 : Option Nat) (a1 : Int32) (a2 : Int32) (h : gk_H) : ∀ r h1, f_M_ofThree a0 a1 a2 h = some (r, h1) → gk_M (d + 5) y_M_ofThree b_M_ofThree 11 none [va_rf a0, .int a1, .int a2] h (.inl (gv_V r)) h1 :=
  fun r h1 e => gk_M_of2 (by decide +kernel) (by simp [lv_args, gk_cat_rf, gk_catI, gk_catJ, gk_catD, gv_V, gv_I, gv_J, gv_D, gv_R]) (by simp [lg_sl, gk_cat_rf, gk_catI, gk_catJ, gk_catD, gv_V, gv_I, gv_J, gv_D, gv_R]) (w_M_ofThree d a0 a1 a2 h r h1 e)
theorem d_M_days_0 : decode b_M_days 0 = .ok (.iload_n 1, 1) := by decide +kernel
theorem d_M_days_1 : decode b_M_days 1 = .ok (.bipush 81, 2) := by decide +kernel
theorem d_M_days_3 : decode b_M_days 3 = .ok (.if_icmp .eq 9, 3) := by decide +kernel
theorem d_M_days_6 : decode b_M_days 6 = .ok (.iload_n 1, 1) := by decide +kernel
theorem d_M_days_7 : decode b_M_days 7 = .ok (.bipush 88, 2) := by decide +kernel
theorem d_M_days_9 : decode b_M_days 9 = .ok (.if_icmp .ne 10, 3) := by decide +kernel
theorem d_M_days_12 : decode b_M_days 12 = .ok (.aload_n 0, 1) := by decide +kernel
theorem d_M_days_13 : decode b_M_days 13 = .ok (.iload_n 1, 1) := by decide +kernel
theorem d_M_days_14 : decode b_M_days 14 = .ok (.iload_n 2, 1) := by decide +kernel
theorem d_M_days_15 : decode b_M_days 15 = .ok (.invokevirtual 448, 3) := by decide +kernel
theorem d_M_days_18 : decode b_M_days 18 = .ok (.return_, 1) := by decide +kernel
theorem d_M_days_19 : decode b_M_days 19 = .ok (.aload_n 0, 1) := by decide +kernel
theorem d_M_days_20 : decode b_M_days 20 = .ok (.iload_n 2, 1) := by decide +kernel
theorem d_M_days_21 : decode b_M_days 21 = .ok (.invokevirtual 137, 3) := by decide +kernel
theorem d_M_days_24 : decode b_M_days 24 = .ok (.dstore 4, 2) := by decide +kernel
theorem d_M_days_26 : decode b_M_days 26 = .ok (.iload_n 1, 1) := by decide +kernel
theorem d_M_days_27 : decode b_M_days 27 = .ok (.bipush 88, 2) := by decide +kernel
theorem d_M_days_29 : decode b_M_days 29 = .ok (.if_icmp .le 11, 3) := by decide +kernel
theorem d_M_days_32 : decode b_M_days 32 = .ok (.aload_n 0, 1) := by decide +kernel
theorem d_M_days_33 : decode b_M_days 33 = .ok (.iload_n 1, 1) := by decide +kernel
theorem d_M_days_34 : decode b_M_days 34 = .ok (.dload 4, 2) := by decide +kernel
theorem d_M_days_36 : decode b_M_days 36 = .ok (.invokevirtual 451, 3) := by decide +kernel
theorem d_M_days_39 : decode b_M_days 39 = .ok (.return_, 1) := by decide +kernel
theorem d_M_days_40 : decode b_M_days 40 = .ok (.iload_n 3, 1) := by decide +kernel
theorem d_M_days_41 : decode b_M_days 41 = .ok (.iconst 2, 1) := by decide +kernel
theorem d_M_days_42 : decode b_M_days 42 = .ok (.if_icmp .ne 13, 3) := by decide +kernel
theorem d_M_days_45 : decode b_M_days 45 = .ok (.aload_n 0, 1) := by decide +kernel
theorem d_M_days_46 : decode b_M_days 46 = .ok (.iload_n 2, 1) := by decide +kernel
theorem d_M_days_47 : decode b_M_days 47 = .ok (.iconst 1, 1) := by decide +kernel
theorem d_M_days_48 : decode b_M_days 48 = .ok (.iadd, 1) := by decide +kernel
theorem d_M_days_49 : decode b_M_days 49 = .ok (.invokevirtual 296, 3) := by decide +kernel
theorem d_M_days_52 : decode b_M_days 52 = .ok (.goto 4, 3) := by decide +kernel
theorem d_M_days_55 : decode b_M_days 55 = .ok (.lconst 1, 1) := by decide +kernel
theorem d_M_days_56 : decode b_M_days 56 = .ok (.lstore 6, 2) := by decide +kernel
theorem d_M_days_58 : decode b_M_days 58 = .ok (.aload_n 0, 1) := by decide +kernel
theorem d_M_days_59 : decode b_M_days 59 = .ok (.getfield 62, 3) := by decide +kernel
theorem d_M_days_62 : decode b_M_days 62 = .ok (.ifCond .le 4, 3) := by decide +kernel
theorem d_M_days_65 : decode b_M_days 65 = .ok (.return_, 1) := by decide +kernel
theorem d_M_days_66 : decode b_M_days 66 = .ok (.dload 4, 2) := by decide +kernel
theorem d_M_days_68 : decode b_M_days 68 = .ok (.invokestatic 227, 3) := by decide +kernel
theorem d_M_days_71 : decode b_M_days 71 = .ok (.dstore 8, 2) := by decide +kernel
theorem d_M_days_73 : decode b_M_days 73 = .ok (.dload 8, 2) := by decide +kernel
theorem d_M_days_75 : decode b_M_days 75 = .ok (.dconst 0, 1) := by decide +kernel
theorem d_M_days_76 : decode b_M_days 76 = .ok (.dcmp .g, 1) := by decide +kernel
theorem d_M_days_77 : decode b_M_days 77 = .ok (.ifCond .lt 12, 3) := by decide +kernel
theorem d_M_days_80 : decode b_M_days 80 = .ok (.dload 8, 2) := by decide +kernel
theorem d_M_days_82 : decode b_M_days 82 = .ok (.ldc2_w 454, 3) := by decide +kernel
theorem d_M_days_85 : decode b_M_days 85 = .ok (.dcmp .l, 1) := by decide +kernel
theorem d_M_days_86 : decode b_M_days 86 = .ok (.ifCond .le 10, 3) := by decide +kernel
theorem d_M_days_89 : decode b_M_days 89 = .ok (.aload_n 0, 1) := by decide +kernel
theorem d_M_days_90 : decode b_M_days 90 = .ok (.bipush 6, 2) := by decide +kernel
theorem d_M_days_92 : decode b_M_days 92 = .ok (.invokevirtual 58, 3) := by decide +kernel
theorem d_M_days_95 : decode b_M_days 95 = .ok (.return_, 1) := by decide +kernel
theorem d_M_days_96 : decode b_M_days 96 = .ok (.dload 8, 2) := by decide +kernel
theorem d_M_days_98 : decode b_M_days 98 = .ok (.d2i, 1) := by decide +kernel
theorem d_M_days_99 : decode b_M_days 99 = .ok (.istore 10, 2) := by decide +kernel
theorem d_M_days_101 : decode b_M_days 101 = .ok (.aload_n 0, 1) := by decide +kernel
theorem d_M_days_102 : decode b_M_days 102 = .ok (.iload 10, 2) := by decide +kernel
theorem d_M_days_104 : decode b_M_days 104 = .ok (.invokevirtual 456, 3) := by decide +kernel
theorem d_M_days_107 : decode b_M_days 107 = .ok (.iload_n 1, 1) := by decide +kernel
theorem d_M_days_108 : decode b_M_days 108 = .ok (.bipush 85, 2) := by decide +kernel
theorem d_M_days_110 : decode b_M_days 110 = .ok (.if_icmp .ge 43, 3) := by decide +kernel
theorem d_M_days_113 : decode b_M_days 113 = .ok (.aload_n 0, 1) := by decide +kernel
theorem d_M_days_114 : decode b_M_days 114 = .ok (.iload_n 1, 1) := by decide +kernel
theorem d_M_days_115 : decode b_M_days 115 = .ok (.bipush 82, 2) := by decide +kernel
theorem d_M_days_117 : decode b_M_days 117 = .ok (.if_icmp .ne 11, 3) := by decide +kernel
theorem d_M_days_120 : decode b_M_days 120 = .ok (.aload_n 0, 1) := by decide +kernel
theorem d_M_days_121 : decode b_M_days 121 = .ok (.getfield 433, 3) := by decide +kernel
theorem d_M_days_124 : decode b_M_days 124 = .ok (.i2d, 1) := by decide +kernel
theorem d_M_days_125 : decode b_M_days 125 = .ok (.goto 22, 3) := by decide +kernel
theorem d_M_days_128 : decode b_M_days 128 = .ok (.iload_n 1, 1) := by decide +kernel
theorem d_M_days_129 : decode b_M_days 129 = .ok (.bipush 83, 2) := by decide +kernel
theorem d_M_days_131 : decode b_M_days 131 = .ok (.if_icmp .ne 11, 3) := by decide +kernel
theorem d_M_days_134 : decode b_M_days 134 = .ok (.aload_n 0, 1) := by decide +kernel
theorem d_M_days_135 : decode b_M_days 135 = .ok (.getfield 436, 3) := by decide +kernel
theorem d_M_days_138 : decode b_M_days 138 = .ok (.i2d, 1) := by decide +kernel
theorem d_M_days_139 : decode b_M_days 139 = .ok (.goto 8, 3) := by decide +kernel
theorem d_M_days_142 : decode b_M_days 142 = .ok (.aload_n 0, 1) := by decide +kernel
theorem d_M_days_143 : decode b_M_days 143 = .ok (.getfield 439, 3) := by decide +kernel
theorem d_M_days_146 : decode b_M_days 146 = .ok (.i2d, 1) := by decide +kernel
theorem d_M_days_147 : decode b_M_days 147 = .ok (.invokevirtual 207, 3) := by decide +kernel
theorem d_M_days_150 : decode b_M_days 150 = .ok (.goto 112, 3) := by decide +kernel
theorem d_M_days_153 : decode b_M_days 153 = .ok (.iload_n 1, 1) := by decide +kernel
theorem d_M_days_154 : decode b_M_days 154 = .ok (.bipush 85, 2) := by decide +kernel
theorem d_M_days_156 : decode b_M_days 156 = .ok (.if_icmp .ne 89, 3) := by decide +kernel
theorem d_M_days_159 : decode b_M_days 159 = .ok (.iload 10, 2) := by decide +kernel
theorem d_M_days_161 : decode b_M_days 161 = .ok (.bipush 6, 2) := by decide +kernel
theorem d_M_days_163 : decode b_M_days 163 = .ok (.iadd, 1) := by decide +kernel
theorem d_M_days_164 : decode b_M_days 164 = .ok (.bipush 7, 2) := by decide +kernel
theorem d_M_days_166 : decode b_M_days 166 = .ok (.irem, 1) := by decide +kernel
theorem d_M_days_167 : decode b_M_days 167 = .ok (.istore 11, 2) := by decide +kernel
theorem d_M_days_169 : decode b_M_days 169 = .ok (.lload 6, 2) := by decide +kernel
theorem d_M_days_171 : decode b_M_days 171 = .ok (.lconst 1, 1) := by decide +kernel
theorem d_M_days_172 : decode b_M_days 172 = .ok (.lcmp, 1) := by decide +kernel
theorem d_M_days_173 : decode b_M_days 173 = .ok (.ifCond .lt 12, 3) := by decide +kernel
theorem d_M_days_176 : decode b_M_days 176 = .ok (.lload 6, 2) := by decide +kernel
theorem d_M_days_178 : decode b_M_days 178 = .ok (.ldc2_w 459, 3) := by decide +kernel
theorem d_M_days_181 : decode b_M_days 181 = .ok (.lcmp, 1) := by decide +kernel
theorem d_M_days_182 : decode b_M_days 182 = .ok (.ifCond .le 9, 3) := by decide +kernel
theorem d_M_days_185 : decode b_M_days 185 = .ok (.aload_n 0, 1) := by decide +kernel
theorem d_M_days_186 : decode b_M_days 186 = .ok (.bipush 6, 2) := by decide +kernel
theorem d_M_days_188 : decode b_M_days 188 = .ok (.invokevirtual 58, 3) := by decide +kernel
theorem d_M_days_191 : decode b_M_days 191 = .ok (.aload_n 0, 1) := by decide +kernel
theorem d_M_days_192 : decode b_M_days 192 = .ok (.lload 6, 2) := by decide +kernel
theorem d_M_days_194 : decode b_M_days 194 = .ok (.lconst 1, 1) := by decide +kernel
theorem d_M_days_195 : decode b_M_days 195 = .ok (.lcmp, 1) := by decide +kernel
theorem d_M_days_196 : decode b_M_days 196 = .ok (.ifCond .ne 11, 3) := by decide +kernel
theorem d_M_days_199 : decode b_M_days 199 = .ok (.iload 11, 2) := by decide +kernel
theorem d_M_days_201 : decode b_M_days 201 = .ok (.iconst 1, 1) := by decide +kernel
theorem d_M_days_202 : decode b_M_days 202 = .ok (.iadd, 1) := by decide +kernel
theorem d_M_days_203 : decode b_M_days 203 = .ok (.i2d, 1) := by decide +kernel
theorem d_M_days_204 : decode b_M_days 204 = .ok (.goto 35, 3) := by decide +kernel
theorem d_M_days_207 : decode b_M_days 207 = .ok (.lload 6, 2) := by decide +kernel
theorem d_M_days_209 : decode b_M_days 209 = .ok (.ldc2_w 364, 3) := by decide +kernel
theorem d_M_days_212 : decode b_M_days 212 = .ok (.lcmp, 1) := by decide +kernel
theorem d_M_days_213 : decode b_M_days 213 = .ok (.ifCond .ne 17, 3) := by decide +kernel
theorem d_M_days_216 : decode b_M_days 216 = .ok (.iload 11, 2) := by decide +kernel
theorem d_M_days_218 : decode b_M_days 218 = .ok (.bipush 6, 2) := by decide +kernel
theorem d_M_days_220 : decode b_M_days 220 = .ok (.iadd, 1) := by decide +kernel
theorem d_M_days_221 : decode b_M_days 221 = .ok (.bipush 7, 2) := by decide +kernel
theorem d_M_days_223 : decode b_M_days 223 = .ok (.irem, 1) := by decide +kernel
theorem d_M_days_224 : decode b_M_days 224 = .ok (.iconst 1, 1) := by decide +kernel
theorem d_M_days_225 : decode b_M_days 225 = .ok (.iadd, 1) := by decide +kernel
theorem d_M_days_226 : decode b_M_days 226 = .ok (.i2d, 1) := by decide +kernel
theorem d_M_days_227 : decode b_M_days 227 = .ok (.goto 12, 3) := by decide +kernel
theorem d_M_days_230 : decode b_M_days 230 = .ok (.iload 11, 2) := by decide +kernel
theorem d_M_days_232 : decode b_M_days 232 = .ok (.bipush 6, 2) := by decide +kernel
theorem d_M_days_234 : decode b_M_days 234 = .ok (.iadd, 1) := by decide +kernel
theorem d_M_days_235 : decode b_M_days 235 = .ok (.bipush 7, 2) := by decide +kernel
theorem d_M_days_237 : decode b_M_days 237 = .ok (.irem, 1) := by decide +kernel
theorem d_M_days_238 : decode b_M_days 238 = .ok (.i2d, 1) := by decide +kernel
theorem d_M_days_239 : decode b_M_days 239 = .ok (.invokevirtual 207, 3) := by decide +kernel
theorem d_M_days_242 : decode b_M_days 242 = .ok (.goto 20, 3) := by decide +kernel
theorem d_M_days_245 : decode b_M_days 245 = .ok (.aload_n 0, 1) := by decide +kernel
theorem d_M_days_246 : decode b_M_days 246 = .ok (.iload_n 1, 1) := by decide +kernel
theorem d_M_days_247 : decode b_M_days 247 = .ok (.bipush 87, 2) := by decide +kernel
theorem d_M_days_249 : decode b_M_days 249 = .ok (.if_icmp .ne 7, 3) := by decide +kernel
theorem d_M_days_252 : decode b_M_days 252 = .ok (.iconst 1, 1) := by decide +kernel
theorem d_M_days_253 : decode b_M_days 253 = .ok (.goto 4, 3) := by decide +kernel
theorem d_M_days_256 : decode b_M_days 256 = .ok (.iconst 0, 1) := by decide +kernel
theorem d_M_days_257 : decode b_M_days 257 = .ok (.lload 6, 2) := by decide +kernel
theorem d_M_days_259 : decode b_M_days 259 = .ok (.invokevirtual 461, 3) := by decide +kernel
theorem d_M_days_262 : decode b_M_days 262 = .ok (.return_, 1) := by decide +kernel
theorem p_M_days_b12 (d : Nat)  (v0 : Option Nat) (v1 : Int32) (v2 : Int32) (h : gk_H) : gk_P gw_V (d + 6) y_M_days b_M_days 12 none [] (f_M_days_b12  v0 v1 v2 h) 12 [(0, va_rf v0), (1, .int v1), (2, .int v2)] [] h := by
  unfold f_M_days_b12
  refine gk_aload_n (pc := 12) 0 d_M_days_12 rfl ?_
  refine gk_iload_n (pc := 13) 1 d_M_days_13 rfl ?_
  refine gk_iload_n (pc := 14) 2 d_M_days_14 rfl ?_
  refine gk_callV (pc := 15) (d := (d + 5)) (w' := gv_V) (as := [.int v1, .int v2]) (n := 2) 7 d_M_days_15 rfl rfl rfl rfl (Nat.le_of_ble_eq_true rfl) tw_2136 tw_2138 tw_85 tw_99 cw_M_ofThree hy_M_ofThree (Nat.le_of_ble_eq_true rfl) (p_M_ofThree d v0 v1 v2 h) fun _ h1 => ?_
  exact gk_vret (pc := 18) rfl d_M_days_18 rfl
theorem p_M_days_b89 (d : Nat)  (v0 : Option Nat) (h : gk_H) : gk_P gw_V (d + 6) y_M_days b_M_days 12 none [] (f_M_days_b89  v0 h) 89 [(0, va_rf v0)] [] h := by
  unfold f_M_days_b89
  refine gk_aload_n (pc := 89) 0 d_M_days_89 rfl ?_
  refine gk_bipush (pc := 90) (6 : Int32) d_M_days_90 rfl ?_
  refine gk_callV (pc := 92) (d := (d + 5)) (w' := gv_V) (as := [.int (6 : Int32)]) (n := 1) 7 d_M_days_92 rfl rfl rfl rfl (Nat.le_of_ble_eq_true rfl) tw_1805 tw_1807 tw_21 tw_99 cw_M_fail hy_M_fail (Nat.le_of_ble_eq_true rfl) (p_M_fail (d + 5) v0 (6 : Int32) h) fun _ h1 => ?_
  exact gk_vret (pc := 95) rfl d_M_days_95 rfl
theorem p_M_days_b262 (d : Nat)   (h : gk_H) : gk_P gw_V (d + 6) y_M_days b_M_days 12 none [] (f_M_days_b262   h) 262 [] [] h := by
  unfold f_M_days_b262
  exact gk_vret (pc := 262) rfl d_M_days_262 rfl
theorem p_M_days_b257 (d : Nat)  (v6 : Int64) (s0 : Option Nat) (s1 : Int32) (h : gk_H) : gk_P gw_V (d + 6) y_M_days b_M_days 12 none [] (f_M_days_b257  v6 s0 s1 h) 257 [(6, .long v6)] [.int s1, va_rf s0] h := by
  unfold f_M_days_b257
  refine gk_lload (pc := 257) 0 d_M_days_257 rfl ?_
  refine gk_callV (pc := 259) (d := (d + 5)) (w' := gv_V) (as := [.int s1, .long v6]) (n := 2) 7 d_M_days_259 rfl rfl rfl rfl (Nat.le_of_ble_eq_true rfl) tw_2175 tw_2177 tw_89 tw_99 cw_M_monthsOn hy_M_monthsOn (Nat.le_of_ble_eq_true rfl) (p_M_monthsOn (d + 2) s0 s1 v6 h) fun _ h1 => ?_
  refine gk_weak [] (L' := []) rfl ?_
  exact p_M_days_b262 d h1
theorem p_M_days_b239 (d : Nat)  (s0 : Option Nat) (s1 : UInt64) (h : gk_H) : gk_P gw_V (d + 6) y_M_days b_M_days 12 none [] (f_M_days_b239  s0 s1 h) 239 [] [.double s1, va_rf s0] h := by
  unfold f_M_days_b239
  refine gk_callV (pc := 239) (d := (d + 5)) (w' := gv_V) (as := [.double s1]) (n := 1) 7 d_M_days_239 rfl rfl rfl rfl (Nat.le_of_ble_eq_true rfl) tw_1916 tw_1918 tw_38 tw_99 cw_M_answerNumber hy_M_answerNumber (Nat.le_of_ble_eq_true rfl) (p_M_answerNumber (d + 4) s0 s1 h) fun _ h1 => ?_
  refine gk_goto (pc := 242) 262 d_M_days_242 rfl ?_
  exact p_M_days_b262 d h1
theorem p_M_days_b191 (d : Nat)  (v0 : Option Nat) (v6 : Int64) (v11 : Int32) (h : gk_H) : gk_P gw_V (d + 6) y_M_days b_M_days 12 none [] (f_M_days_b191  v0 v6 v11 h) 191 [(0, va_rf v0), (6, .long v6), (11, .int v11)] [] h := by
  unfold f_M_days_b191
  refine gk_aload_n (pc := 191) 0 d_M_days_191 rfl ?_
  refine gk_lload (pc := 192) 1 d_M_days_192 rfl ?_
  refine gk_lconst (pc := 194) (1 : Int64) d_M_days_194 rfl ?_
  refine gk_lcmp (pc := 195) d_M_days_195 ?_
  refine gk_if_ne (pc := 196) 207 d_M_days_196 rfl (fun _ => ?_) (fun _ => ?_)
  · refine gk_iload (pc := 199) 2 d_M_days_199 rfl ?_
    refine gk_iconst (pc := 201) (1 : Int32) d_M_days_201 rfl ?_
    refine gk_iadd (pc := 202) d_M_days_202 ?_
    refine gk_i2d (pc := 203) d_M_days_203 ?_
    refine gk_goto (pc := 204) 239 d_M_days_204 rfl ?_
    refine gk_weak [] (L' := []) rfl ?_
    exact p_M_days_b239 d v0 (FP.i2d (v11 + (1 : Int32))) h
  · refine gk_lload (pc := 207) 1 d_M_days_207 rfl ?_
    refine gk_ldc2 (pc := 209) tw_2037 d_M_days_209 ?_
    refine gk_lcmp (pc := 212) d_M_days_212 ?_
    refine gk_if_ne (pc := 213) 230 d_M_days_213 rfl (fun _ => ?_) (fun _ => ?_)
    · refine gk_iload (pc := 216) 2 d_M_days_216 rfl ?_
      refine gk_bipush (pc := 218) (6 : Int32) d_M_days_218 rfl ?_
      refine gk_iadd (pc := 220) d_M_days_220 ?_
      refine gk_bipush (pc := 221) (7 : Int32) d_M_days_221 rfl ?_
      refine gk_irem (pc := 223) (by decide) d_M_days_223 ?_
      refine gk_iconst (pc := 224) (1 : Int32) d_M_days_224 rfl ?_
      refine gk_iadd (pc := 225) d_M_days_225 ?_
      refine gk_i2d (pc := 226) d_M_days_226 ?_
      refine gk_goto (pc := 227) 239 d_M_days_227 rfl ?_
      refine gk_weak [] (L' := []) rfl ?_
      exact p_M_days_b239 d v0 (FP.i2d (((v11 + (6 : Int32)) - (v11 + (6 : Int32)) / (7 : Int32) * (7 : Int32)) + (1 : Int32))) h
    · refine gk_iload (pc := 230) 2 d_M_days_230 rfl ?_
      refine gk_bipush (pc := 232) (6 : Int32) d_M_days_232 rfl ?_
      refine gk_iadd (pc := 234) d_M_days_234 ?_
      refine gk_bipush (pc := 235) (7 : Int32) d_M_days_235 rfl ?_
      refine gk_irem (pc := 237) (by decide) d_M_days_237 ?_
      refine gk_i2d (pc := 238) d_M_days_238 ?_
      refine gk_weak [] (L' := []) rfl ?_
      exact p_M_days_b239 d v0 (FP.i2d ((v11 + (6 : Int32)) - (v11 + (6 : Int32)) / (7 : Int32) * (7 : Int32))) h
theorem p_M_days_b185 (d : Nat)  (v0 : Option Nat) (v6 : Int64) (v11 : Int32) (h : gk_H) : gk_P gw_V (d + 6) y_M_days b_M_days 12 none [] (f_M_days_b185  v0 v6 v11 h) 185 [(0, va_rf v0), (6, .long v6), (11, .int v11)] [] h := by
  unfold f_M_days_b185
  refine gk_aload_n (pc := 185) 0 d_M_days_185 rfl ?_
  refine gk_bipush (pc := 186) (6 : Int32) d_M_days_186 rfl ?_
  refine gk_callV (pc := 188) (d := (d + 5)) (w' := gv_V) (as := [.int (6 : Int32)]) (n := 1) 7 d_M_days_188 rfl rfl rfl rfl (Nat.le_of_ble_eq_true rfl) tw_1805 tw_1807 tw_21 tw_99 cw_M_fail hy_M_fail (Nat.le_of_ble_eq_true rfl) (p_M_fail (d + 5) v0 (6 : Int32) h) fun _ h1 => ?_
  exact p_M_days_b191 d v0 v6 v11 h1
theorem p_M_days_b147 (d : Nat)  (s0 : Option Nat) (s1 : UInt64) (h : gk_H) : gk_P gw_V (d + 6) y_M_days b_M_days 12 none [] (f_M_days_b147  s0 s1 h) 147 [] [.double s1, va_rf s0] h := by
  unfold f_M_days_b147
  refine gk_callV (pc := 147) (d := (d + 5)) (w' := gv_V) (as := [.double s1]) (n := 1) 7 d_M_days_147 rfl rfl rfl rfl (Nat.le_of_ble_eq_true rfl) tw_1916 tw_1918 tw_38 tw_99 cw_M_answerNumber hy_M_answerNumber (Nat.le_of_ble_eq_true rfl) (p_M_answerNumber (d + 4) s0 s1 h) fun _ h1 => ?_
  refine gk_goto (pc := 150) 262 d_M_days_150 rfl ?_
  exact p_M_days_b262 d h1
theorem p_M_days_b56 (d : Nat)  (v0 : Option Nat) (v1 : Int32) (v4 : UInt64) (s0 : Int64) (h : gk_H) : gk_P gw_V (d + 6) y_M_days b_M_days 12 none [] (f_M_days_b56  v0 v1 v4 s0 h) 56 [(0, va_rf v0), (1, .int v1), (4, .double v4)] [.long s0] h := by
  unfold f_M_days_b56
  refine gk_lstore (pc := 56) (L' := [(6, .long s0), (0, va_rf v0), (1, .int v1), (4, .double v4)]) d_M_days_56 (Nat.le_of_ble_eq_true rfl) rfl ?_
  refine gk_aload_n (pc := 58) 1 d_M_days_58 rfl ?_
  refine gk_getI (pc := 59) 7 11 d_M_days_59 rfl (Nat.le_of_ble_eq_true rfl) tw_1656 fun x1 => ?_
  refine gk_if_le (pc := 62) 66 d_M_days_62 rfl (fun _ => ?_) (fun _ => ?_)
  · refine gk_dload (pc := 66) 3 d_M_days_66 rfl ?_
    refine gk_callS (pc := 68) (d := (d + 5)) (w' := gv_D) (as := [.double v4]) (n := 1) d_M_days_68 rfl rfl (Nat.le_of_ble_eq_true rfl) tw_2027 tw_2028 tw_99 cw_M_floor hy_M_floor (Nat.le_of_ble_eq_true rfl) (p_M_floor (d + 5) v4 h) fun x2 h1 => ?_
    refine gk_dstore (pc := 71) (L' := [(8, .double x2), (6, .long s0), (0, va_rf v0), (1, .int v1), (4, .double v4)]) d_M_days_71 (Nat.le_of_ble_eq_true rfl) rfl ?_
    refine gk_dload (pc := 73) 0 d_M_days_73 rfl ?_
    refine gk_dconst0 (pc := 75) d_M_days_75 ?_
    refine gk_dcmp (pc := 76) d_M_days_76 ?_
    refine gk_if_lt (pc := 77) 89 d_M_days_77 rfl (fun _ => ?_) (fun _ => ?_)
    · refine gk_weak [2] (L' := [(0, va_rf v0)]) rfl ?_
      exact p_M_days_b89 d v0 h1
    · refine gk_dload (pc := 80) 0 d_M_days_80 rfl ?_
      refine gk_ldc2d (pc := 82) tw_2169 d_M_days_82 ?_
      refine gk_dcmp (pc := 85) d_M_days_85 ?_
      refine gk_if_le (pc := 86) 96 d_M_days_86 rfl (fun _ => ?_) (fun _ => ?_)
      · refine gk_dload (pc := 96) 0 d_M_days_96 rfl ?_
        refine gk_d2i (pc := 98) d_M_days_98 ?_
        refine gk_topI (pc := 99) fun x3 => ?_
        refine gk_istore (pc := 99) (L' := [(10, .int x3), (8, .double x2), (6, .long s0), (0, va_rf v0), (1, .int v1), (4, .double v4)]) d_M_days_99 (Nat.le_of_ble_eq_true rfl) rfl ?_
        refine gk_aload_n (pc := 101) 3 d_M_days_101 rfl ?_
        refine gk_iload (pc := 102) 0 d_M_days_102 rfl ?_
        refine gk_callV (pc := 104) (d := (d + 5)) (w' := gv_V) (as := [.int x3]) (n := 1) 7 d_M_days_104 rfl rfl rfl rfl (Nat.le_of_ble_eq_true rfl) tw_2170 tw_2172 tw_88 tw_99 cw_M_findDate hy_M_findDate (Nat.le_of_ble_eq_true rfl) (p_M_findDate (d + 3) v0 x3 h1) fun _ h2 => ?_
        refine gk_iload_n (pc := 107) 4 d_M_days_107 rfl ?_
        refine gk_bipush (pc := 108) (85 : Int32) d_M_days_108 rfl ?_
        refine gk_icmp_ge (pc := 110) 153 d_M_days_110 rfl (fun _ => ?_) (fun _ => ?_)
        · refine gk_iload_n (pc := 153) 4 d_M_days_153 rfl ?_
          refine gk_bipush (pc := 154) (85 : Int32) d_M_days_154 rfl ?_
          refine gk_icmp_ne (pc := 156) 245 d_M_days_156 rfl (fun _ => ?_) (fun _ => ?_)
          · refine gk_iload (pc := 159) 0 d_M_days_159 rfl ?_
            refine gk_bipush (pc := 161) (6 : Int32) d_M_days_161 rfl ?_
            refine gk_iadd (pc := 163) d_M_days_163 ?_
            refine gk_bipush (pc := 164) (7 : Int32) d_M_days_164 rfl ?_
            refine gk_irem (pc := 166) (by decide) d_M_days_166 ?_
            refine gk_topI (pc := 167) fun x4 => ?_
            refine gk_istore (pc := 167) (L' := [(11, .int x4), (10, .int x3), (8, .double x2), (6, .long s0), (0, va_rf v0), (1, .int v1), (4, .double v4)]) d_M_days_167 (Nat.le_of_ble_eq_true rfl) rfl ?_
            refine gk_lload (pc := 169) 3 d_M_days_169 rfl ?_
            refine gk_lconst (pc := 171) (1 : Int64) d_M_days_171 rfl ?_
            refine gk_lcmp (pc := 172) d_M_days_172 ?_
            refine gk_if_lt (pc := 173) 185 d_M_days_173 rfl (fun _ => ?_) (fun _ => ?_)
            · refine gk_weak [4, 3, 0] (L' := [(0, va_rf v0), (6, .long s0), (11, .int x4)]) rfl ?_
              exact p_M_days_b185 d v0 s0 x4 h2
            · refine gk_lload (pc := 176) 3 d_M_days_176 rfl ?_
              refine gk_ldc2 (pc := 178) tw_2174 d_M_days_178 ?_
              refine gk_lcmp (pc := 181) d_M_days_181 ?_
              refine gk_if_le (pc := 182) 191 d_M_days_182 rfl (fun _ => ?_) (fun _ => ?_)
              · refine gk_weak [4, 3, 0] (L' := [(0, va_rf v0), (6, .long s0), (11, .int x4)]) rfl ?_
                exact p_M_days_b191 d v0 s0 x4 h2
              · refine gk_weak [4, 3, 0] (L' := [(0, va_rf v0), (6, .long s0), (11, .int x4)]) rfl ?_
                exact p_M_days_b185 d v0 s0 x4 h2
          · refine gk_aload_n (pc := 245) 3 d_M_days_245 rfl ?_
            refine gk_iload_n (pc := 246) 4 d_M_days_246 rfl ?_
            refine gk_bipush (pc := 247) (87 : Int32) d_M_days_247 rfl ?_
            refine gk_icmp_ne (pc := 249) 256 d_M_days_249 rfl (fun _ => ?_) (fun _ => ?_)
            · refine gk_iconst (pc := 252) (1 : Int32) d_M_days_252 rfl ?_
              refine gk_goto (pc := 253) 257 d_M_days_253 rfl ?_
              refine gk_weak [2] (L' := [(6, .long s0)]) rfl ?_
              exact p_M_days_b257 d s0 v0 (1 : Int32) h2
            · refine gk_iconst (pc := 256) (0 : Int32) d_M_days_256 rfl ?_
              refine gk_weak [2] (L' := [(6, .long s0)]) rfl ?_
              exact p_M_days_b257 d s0 v0 (0 : Int32) h2
        · refine gk_aload_n (pc := 113) 3 d_M_days_113 rfl ?_
          refine gk_iload_n (pc := 114) 4 d_M_days_114 rfl ?_
          refine gk_bipush (pc := 115) (82 : Int32) d_M_days_115 rfl ?_
          refine gk_icmp_ne (pc := 117) 128 d_M_days_117 rfl (fun _ => ?_) (fun _ => ?_)
          · refine gk_aload_n (pc := 120) 3 d_M_days_120 rfl ?_
            refine gk_getI (pc := 121) 7 22 d_M_days_121 rfl (Nat.le_of_ble_eq_true rfl) tw_1667 fun x5 => ?_
            refine gk_i2d (pc := 124) d_M_days_124 ?_
            refine gk_goto (pc := 125) 147 d_M_days_125 rfl ?_
            refine gk_weak [] (L' := []) rfl ?_
            exact p_M_days_b147 d v0 (FP.i2d x5) h2
          · refine gk_iload_n (pc := 128) 4 d_M_days_128 rfl ?_
            refine gk_bipush (pc := 129) (83 : Int32) d_M_days_129 rfl ?_
            refine gk_icmp_ne (pc := 131) 142 d_M_days_131 rfl (fun _ => ?_) (fun _ => ?_)
            · refine gk_aload_n (pc := 134) 3 d_M_days_134 rfl ?_
              refine gk_getI (pc := 135) 7 23 d_M_days_135 rfl (Nat.le_of_ble_eq_true rfl) tw_1668 fun x6 => ?_
              refine gk_i2d (pc := 138) d_M_days_138 ?_
              refine gk_goto (pc := 139) 147 d_M_days_139 rfl ?_
              refine gk_weak [] (L' := []) rfl ?_
              exact p_M_days_b147 d v0 (FP.i2d x6) h2
            · refine gk_aload_n (pc := 142) 3 d_M_days_142 rfl ?_
              refine gk_getI (pc := 143) 7 24 d_M_days_143 rfl (Nat.le_of_ble_eq_true rfl) tw_1669 fun x7 => ?_
              refine gk_i2d (pc := 146) d_M_days_146 ?_
              refine gk_weak [] (L' := []) rfl ?_
              exact p_M_days_b147 d v0 (FP.i2d x7) h2
      · refine gk_weak [2] (L' := [(0, va_rf v0)]) rfl ?_
        exact p_M_days_b89 d v0 h1
  · exact gk_vret (pc := 65) rfl d_M_days_65 rfl
theorem w_M_days (d : Nat) (a0 : Option Nat) (a1 : Int32) (a2 : Int32) (a3 : Int32) (h : gk_H) : gk_P gw_V (d + 6) y_M_days b_M_days 12 none [] (f_M_days a0 a1 a2 a3 h) 0 [(0, va_rf a0), (1, .int a1), (2, .int a2), (3, .int a3)] [] h := by
  unfold f_M_days
  refine gk_iload_n (pc := 0) 1 d_M_days_0 rfl ?_
  refine gk_bipush (pc := 1) (81 : Int32) d_M_days_1 rfl ?_
  refine gk_icmp_eq (pc := 3) 12 d_M_days_3 rfl (fun _ => ?_) (fun _ => ?_)
  · refine gk_weak [0, 1, 2] (L' := [(0, va_rf a0), (1, .int a1), (2, .int a2)]) rfl ?_
    exact p_M_days_b12 d a0 a1 a2 h
  · refine gk_iload_n (pc := 6) 1 d_M_days_6 rfl ?_
    refine gk_bipush (pc := 7) (88 : Int32) d_M_days_7 rfl ?_
    refine gk_icmp_ne (pc := 9) 19 d_M_days_9 rfl (fun _ => ?_) (fun _ => ?_)
    · refine gk_weak [0, 1, 2] (L' := [(0, va_rf a0), (1, .int a1), (2, .int a2)]) rfl ?_
      exact p_M_days_b12 d a0 a1 a2 h
    · refine gk_aload_n (pc := 19) 0 d_M_days_19 rfl ?_
      refine gk_iload_n (pc := 20) 2 d_M_days_20 rfl ?_
      refine gk_callV (pc := 21) (d := (d + 5)) (w' := gv_D) (as := [.int a2]) (n := 1) 7 d_M_days_21 rfl rfl rfl rfl (Nat.le_of_ble_eq_true rfl) tw_1868 tw_1870 tw_31 tw_99 cw_M_wantNumber hy_M_wantNumber (Nat.le_of_ble_eq_true rfl) (p_M_wantNumber (d + 2) a0 a2 h) fun x1 h1 => ?_
      refine gk_dstore (pc := 24) (L' := [(4, .double x1), (0, va_rf a0), (1, .int a1), (2, .int a2), (3, .int a3)]) d_M_days_24 (Nat.le_of_ble_eq_true rfl) rfl ?_
      refine gk_iload_n (pc := 26) 2 d_M_days_26 rfl ?_
      refine gk_bipush (pc := 27) (88 : Int32) d_M_days_27 rfl ?_
      refine gk_icmp_le (pc := 29) 40 d_M_days_29 rfl (fun _ => ?_) (fun _ => ?_)
      · refine gk_iload_n (pc := 40) 4 d_M_days_40 rfl ?_
        refine gk_iconst (pc := 41) (2 : Int32) d_M_days_41 rfl ?_
        refine gk_icmp_ne (pc := 42) 55 d_M_days_42 rfl (fun _ => ?_) (fun _ => ?_)
        · refine gk_aload_n (pc := 45) 1 d_M_days_45 rfl ?_
          refine gk_iload_n (pc := 46) 3 d_M_days_46 rfl ?_
          refine gk_iconst (pc := 47) (1 : Int32) d_M_days_47 rfl ?_
          refine gk_iadd (pc := 48) d_M_days_48 ?_
          refine gk_callV (pc := 49) (d := (d + 5)) (w' := gv_J) (as := [.int (a2 + (1 : Int32))]) (n := 1) 7 d_M_days_49 rfl rfl rfl rfl (Nat.le_of_ble_eq_true rfl) tw_1954 tw_1956 tw_45 tw_99 cw_M_wantWhole hy_M_wantWhole (Nat.le_of_ble_eq_true rfl) (p_M_wantWhole (d + 1) a0 (a2 + (1 : Int32)) h1) fun x2 h2 => ?_
          refine gk_goto (pc := 52) 56 d_M_days_52 rfl ?_
          refine gk_weak [1, 2, 0] (L' := [(0, va_rf a0), (1, .int a1), (4, .double x1)]) rfl ?_
          exact p_M_days_b56 d a0 a1 x1 x2 h2
        · refine gk_lconst (pc := 55) (1 : Int64) d_M_days_55 rfl ?_
          refine gk_weak [1, 2, 0] (L' := [(0, va_rf a0), (1, .int a1), (4, .double x1)]) rfl ?_
          exact p_M_days_b56 d a0 a1 x1 (1 : Int64) h1
      · refine gk_aload_n (pc := 32) 1 d_M_days_32 rfl ?_
        refine gk_iload_n (pc := 33) 2 d_M_days_33 rfl ?_
        refine gk_dload (pc := 34) 0 d_M_days_34 rfl ?_
        refine gk_callV (pc := 36) (d := (d + 5)) (w' := gv_V) (as := [.int a1, .double x1]) (n := 2) 7 d_M_days_36 rfl rfl rfl rfl (Nat.le_of_ble_eq_true rfl) tw_2164 tw_2166 tw_87 tw_99 cw_M_timeOf hy_M_timeOf (Nat.le_of_ble_eq_true rfl) (p_M_timeOf (d + 3) a0 a1 x1 h1) fun _ h3 => ?_
        exact gk_vret (pc := 39) rfl d_M_days_39 rfl
theorem p_M_days (d : Nat) (a0 : Option Nat) (a1 : Int32) (a2 : Int32) (a3 : Int32) (h : gk_H) : ∀ r h1, f_M_days a0 a1 a2 a3 h = some (r, h1) → gk_M (d + 6) y_M_days b_M_days 12 none [va_rf a0, .int a1, .int a2, .int a3] h (.inl (gv_V r)) h1 :=
  fun r h1 e => gk_M_of2 (by decide +kernel) (by simp [lv_args, gk_cat_rf, gk_catI, gk_catJ, gk_catD, gv_V, gv_I, gv_J, gv_D, gv_R]) (by simp [lg_sl, gk_cat_rf, gk_catI, gk_catJ, gk_catD, gv_V, gv_I, gv_J, gv_D, gv_R]) (w_M_days d a0 a1 a2 a3 h r h1 e)
theorem d_M_call_0 : decode b_M_call 0 = .ok (.iload_n 1, 1) := by decide +kernel
theorem d_M_call_1 : decode b_M_call 1 = .ok (.ifCond .lt 13, 3) := by decide +kernel
theorem d_M_call_4 : decode b_M_call 4 = .ok (.iload_n 1, 1) := by decide +kernel
theorem d_M_call_5 : decode b_M_call 5 = .ok (.bipush 92, 2) := by decide +kernel
theorem d_M_call_7 : decode b_M_call 7 = .ok (.if_icmp .ge 7, 3) := by decide +kernel
theorem d_M_call_10 : decode b_M_call 10 = .ok (.iconst 1, 1) := by decide +kernel
theorem d_M_call_11 : decode b_M_call 11 = .ok (.goto 4, 3) := by decide +kernel
theorem d_M_call_14 : decode b_M_call 14 = .ok (.iconst 0, 1) := by decide +kernel
theorem d_M_call_15 : decode b_M_call 15 = .ok (.istore_n 3, 1) := by decide +kernel
theorem d_M_call_16 : decode b_M_call 16 = .ok (.iload_n 3, 1) := by decide +kernel
theorem d_M_call_17 : decode b_M_call 17 = .ok (.ifCond .eq 37, 3) := by decide +kernel
theorem d_M_call_20 : decode b_M_call 20 = .ok (.iload_n 2, 1) := by decide +kernel
theorem d_M_call_21 : decode b_M_call 21 = .ok (.iload_n 1, 1) := by decide +kernel
theorem d_M_call_22 : decode b_M_call 22 = .ok (.invokestatic 240, 3) := by decide +kernel
theorem d_M_call_25 : decode b_M_call 25 = .ok (.bipush 10, 2) := by decide +kernel
theorem d_M_call_27 : decode b_M_call 27 = .ok (.idiv, 1) := by decide +kernel
theorem d_M_call_28 : decode b_M_call 28 = .ok (.if_icmp .lt 26, 3) := by decide +kernel
theorem d_M_call_31 : decode b_M_call 31 = .ok (.iload_n 2, 1) := by decide +kernel
theorem d_M_call_32 : decode b_M_call 32 = .ok (.iload_n 1, 1) := by decide +kernel
theorem d_M_call_33 : decode b_M_call 33 = .ok (.invokestatic 240, 3) := by decide +kernel
theorem d_M_call_36 : decode b_M_call 36 = .ok (.bipush 10, 2) := by decide +kernel
theorem d_M_call_38 : decode b_M_call 38 = .ok (.irem, 1) := by decide +kernel
theorem d_M_call_39 : decode b_M_call 39 = .ok (.if_icmp .gt 15, 3) := by decide +kernel
theorem d_M_call_42 : decode b_M_call 42 = .ok (.iload_n 2, 1) := by decide +kernel
theorem d_M_call_43 : decode b_M_call 43 = .ok (.aload_n 0, 1) := by decide +kernel
theorem d_M_call_44 : decode b_M_call 44 = .ok (.getfield 69, 3) := by decide +kernel
theorem d_M_call_47 : decode b_M_call 47 = .ok (.if_icmp .gt 7, 3) := by decide +kernel
theorem d_M_call_50 : decode b_M_call 50 = .ok (.iconst 1, 1) := by decide +kernel
theorem d_M_call_51 : decode b_M_call 51 = .ok (.goto 4, 3) := by decide +kernel
theorem d_M_call_54 : decode b_M_call 54 = .ok (.iconst 0, 1) := by decide +kernel
theorem d_M_call_55 : decode b_M_call 55 = .ok (.istore 4, 2) := by decide +kernel
theorem d_M_call_57 : decode b_M_call 57 = .ok (.aload_n 0, 1) := by decide +kernel
theorem d_M_call_58 : decode b_M_call 58 = .ok (.iload 4, 2) := by decide +kernel
theorem d_M_call_60 : decode b_M_call 60 = .ok (.ifCond .ne 7, 3) := by decide +kernel
theorem d_M_call_63 : decode b_M_call 63 = .ok (.iconst 1, 1) := by decide +kernel
theorem d_M_call_64 : decode b_M_call 64 = .ok (.goto 20, 3) := by decide +kernel
theorem d_M_call_67 : decode b_M_call 67 = .ok (.iload_n 2, 1) := by decide +kernel
theorem d_M_call_68 : decode b_M_call 68 = .ok (.ifCond .ne 15, 3) := by decide +kernel
theorem d_M_call_71 : decode b_M_call 71 = .ok (.aload_n 0, 1) := by decide +kernel
theorem d_M_call_72 : decode b_M_call 72 = .ok (.iconst 1, 1) := by decide +kernel
theorem d_M_call_73 : decode b_M_call 73 = .ok (.invokevirtual 72, 3) := by decide +kernel
theorem d_M_call_76 : decode b_M_call 76 = .ok (.ifCond .eq 7, 3) := by decide +kernel
theorem d_M_call_79 : decode b_M_call 79 = .ok (.iconst 2, 1) := by decide +kernel
theorem d_M_call_80 : decode b_M_call 80 = .ok (.goto 4, 3) := by decide +kernel
theorem d_M_call_83 : decode b_M_call 83 = .ok (.iconst 0, 1) := by decide +kernel
theorem d_M_call_84 : decode b_M_call 84 = .ok (.putfield 46, 3) := by decide +kernel
theorem d_M_call_87 : decode b_M_call 87 = .ok (.aload_n 0, 1) := by decide +kernel
theorem d_M_call_88 : decode b_M_call 88 = .ok (.getfield 46, 3) := by decide +kernel
theorem d_M_call_91 : decode b_M_call 91 = .ok (.ifCond .le 4, 3) := by decide +kernel
theorem d_M_call_94 : decode b_M_call 94 = .ok (.return_, 1) := by decide +kernel
theorem d_M_call_95 : decode b_M_call 95 = .ok (.aload_n 0, 1) := by decide +kernel
theorem d_M_call_96 : decode b_M_call 96 = .ok (.iconst 0, 1) := by decide +kernel
theorem d_M_call_97 : decode b_M_call 97 = .ok (.putfield 62, 3) := by decide +kernel
theorem d_M_call_100 : decode b_M_call 100 = .ok (.aload_n 0, 1) := by decide +kernel
theorem d_M_call_101 : decode b_M_call 101 = .ok (.getfield 69, 3) := by decide +kernel
theorem d_M_call_104 : decode b_M_call 104 = .ok (.iload_n 2, 1) := by decide +kernel
theorem d_M_call_105 : decode b_M_call 105 = .ok (.isub, 1) := by decide +kernel
theorem d_M_call_106 : decode b_M_call 106 = .ok (.istore 5, 2) := by decide +kernel
theorem d_M_call_108 : decode b_M_call 108 = .ok (.iload_n 1, 1) := by decide +kernel
theorem d_M_call_109 : decode b_M_call 109 = .ok (.bipush 15, 2) := by decide +kernel
theorem d_M_call_111 : decode b_M_call 111 = .ok (.if_icmp .ge 14, 3) := by decide +kernel
theorem d_M_call_114 : decode b_M_call 114 = .ok (.aload_n 0, 1) := by decide +kernel
theorem d_M_call_115 : decode b_M_call 115 = .ok (.iload_n 1, 1) := by decide +kernel
theorem d_M_call_116 : decode b_M_call 116 = .ok (.iload 5, 2) := by decide +kernel
theorem d_M_call_118 : decode b_M_call 118 = .ok (.iload_n 2, 1) := by decide +kernel
theorem d_M_call_119 : decode b_M_call 119 = .ok (.invokevirtual 243, 3) := by decide +kernel
theorem d_M_call_122 : decode b_M_call 122 = .ok (.goto 112, 3) := by decide +kernel
theorem d_M_call_125 : decode b_M_call 125 = .ok (.iload_n 1, 1) := by decide +kernel
theorem d_M_call_126 : decode b_M_call 126 = .ok (.bipush 19, 2) := by decide +kernel
theorem d_M_call_128 : decode b_M_call 128 = .ok (.if_icmp .ge 14, 3) := by decide +kernel
theorem d_M_call_131 : decode b_M_call 131 = .ok (.aload_n 0, 1) := by decide +kernel
theorem d_M_call_132 : decode b_M_call 132 = .ok (.iload_n 1, 1) := by decide +kernel
theorem d_M_call_133 : decode b_M_call 133 = .ok (.iload 5, 2) := by decide +kernel
theorem d_M_call_135 : decode b_M_call 135 = .ok (.iload_n 2, 1) := by decide +kernel
theorem d_M_call_136 : decode b_M_call 136 = .ok (.invokevirtual 247, 3) := by decide +kernel
theorem d_M_call_139 : decode b_M_call 139 = .ok (.goto 95, 3) := by decide +kernel
theorem d_M_call_142 : decode b_M_call 142 = .ok (.iload_n 1, 1) := by decide +kernel
theorem d_M_call_143 : decode b_M_call 143 = .ok (.bipush 35, 2) := by decide +kernel
theorem d_M_call_145 : decode b_M_call 145 = .ok (.if_icmp .ge 14, 3) := by decide +kernel
theorem d_M_call_148 : decode b_M_call 148 = .ok (.aload_n 0, 1) := by decide +kernel
theorem d_M_call_149 : decode b_M_call 149 = .ok (.iload_n 1, 1) := by decide +kernel
theorem d_M_call_150 : decode b_M_call 150 = .ok (.iload 5, 2) := by decide +kernel
theorem d_M_call_152 : decode b_M_call 152 = .ok (.iload_n 2, 1) := by decide +kernel
theorem d_M_call_153 : decode b_M_call 153 = .ok (.invokevirtual 250, 3) := by decide +kernel
theorem d_M_call_156 : decode b_M_call 156 = .ok (.goto 78, 3) := by decide +kernel
theorem d_M_call_159 : decode b_M_call 159 = .ok (.iload_n 1, 1) := by decide +kernel
theorem d_M_call_160 : decode b_M_call 160 = .ok (.bipush 46, 2) := by decide +kernel
theorem d_M_call_162 : decode b_M_call 162 = .ok (.if_icmp .ge 14, 3) := by decide +kernel
theorem d_M_call_165 : decode b_M_call 165 = .ok (.aload_n 0, 1) := by decide +kernel
theorem d_M_call_166 : decode b_M_call 166 = .ok (.iload_n 1, 1) := by decide +kernel
theorem d_M_call_167 : decode b_M_call 167 = .ok (.iload 5, 2) := by decide +kernel
theorem d_M_call_169 : decode b_M_call 169 = .ok (.iload_n 2, 1) := by decide +kernel
theorem d_M_call_170 : decode b_M_call 170 = .ok (.invokevirtual 253, 3) := by decide +kernel
theorem d_M_call_173 : decode b_M_call 173 = .ok (.goto 61, 3) := by decide +kernel
theorem d_M_call_176 : decode b_M_call 176 = .ok (.iload_n 1, 1) := by decide +kernel
theorem d_M_call_177 : decode b_M_call 177 = .ok (.bipush 56, 2) := by decide +kernel
theorem d_M_call_179 : decode b_M_call 179 = .ok (.if_icmp .ge 13, 3) := by decide +kernel
theorem d_M_call_182 : decode b_M_call 182 = .ok (.aload_n 0, 1) := by decide +kernel
theorem d_M_call_183 : decode b_M_call 183 = .ok (.iload_n 1, 1) := by decide +kernel
theorem d_M_call_184 : decode b_M_call 184 = .ok (.iload 5, 2) := by decide +kernel
theorem d_M_call_186 : decode b_M_call 186 = .ok (.invokevirtual 256, 3) := by decide +kernel
theorem d_M_call_189 : decode b_M_call 189 = .ok (.goto 45, 3) := by decide +kernel
theorem d_M_call_192 : decode b_M_call 192 = .ok (.iload_n 1, 1) := by decide +kernel
theorem d_M_call_193 : decode b_M_call 193 = .ok (.bipush 74, 2) := by decide +kernel
theorem d_M_call_195 : decode b_M_call 195 = .ok (.if_icmp .ge 14, 3) := by decide +kernel
theorem d_M_call_198 : decode b_M_call 198 = .ok (.aload_n 0, 1) := by decide +kernel
theorem d_M_call_199 : decode b_M_call 199 = .ok (.iload_n 1, 1) := by decide +kernel
theorem d_M_call_200 : decode b_M_call 200 = .ok (.iload 5, 2) := by decide +kernel
theorem d_M_call_202 : decode b_M_call 202 = .ok (.iload_n 2, 1) := by decide +kernel
theorem d_M_call_203 : decode b_M_call 203 = .ok (.invokevirtual 259, 3) := by decide +kernel
theorem d_M_call_206 : decode b_M_call 206 = .ok (.goto 28, 3) := by decide +kernel
theorem d_M_call_209 : decode b_M_call 209 = .ok (.iload_n 1, 1) := by decide +kernel
theorem d_M_call_210 : decode b_M_call 210 = .ok (.bipush 81, 2) := by decide +kernel
theorem d_M_call_212 : decode b_M_call 212 = .ok (.if_icmp .ge 14, 3) := by decide +kernel
theorem d_M_call_215 : decode b_M_call 215 = .ok (.aload_n 0, 1) := by decide +kernel
theorem d_M_call_216 : decode b_M_call 216 = .ok (.iload_n 1, 1) := by decide +kernel
theorem d_M_call_217 : decode b_M_call 217 = .ok (.iload 5, 2) := by decide +kernel
theorem d_M_call_219 : decode b_M_call 219 = .ok (.iload_n 2, 1) := by decide +kernel
theorem d_M_call_220 : decode b_M_call 220 = .ok (.invokevirtual 262, 3) := by decide +kernel
theorem d_M_call_223 : decode b_M_call 223 = .ok (.goto 11, 3) := by decide +kernel
theorem d_M_call_226 : decode b_M_call 226 = .ok (.aload_n 0, 1) := by decide +kernel
theorem d_M_call_227 : decode b_M_call 227 = .ok (.iload_n 1, 1) := by decide +kernel
theorem d_M_call_228 : decode b_M_call 228 = .ok (.iload 5, 2) := by decide +kernel
theorem d_M_call_230 : decode b_M_call 230 = .ok (.iload_n 2, 1) := by decide +kernel
theorem d_M_call_231 : decode b_M_call 231 = .ok (.invokevirtual 265, 3) := by decide +kernel
theorem d_M_call_234 : decode b_M_call 234 = .ok (.aload_n 0, 1) := by decide +kernel
theorem d_M_call_235 : decode b_M_call 235 = .ok (.iload_n 2, 1) := by decide +kernel
theorem d_M_call_236 : decode b_M_call 236 = .ok (.invokevirtual 210, 3) := by decide +kernel
theorem d_M_call_239 : decode b_M_call 239 = .ok (.return_, 1) := by decide +kernel
theorem p_M_call_b234 (d : Nat)  (v0 : Option Nat) (v2 : Int32) (h : gk_H) : gk_P gw_V (d + 7) y_M_call b_M_call 6 none [] (f_M_call_b234  v0 v2 h) 234 [(0, va_rf v0), (2, .int v2)] [] h := by
  unfold f_M_call_b234
  refine gk_aload_n (pc := 234) 0 d_M_call_234 rfl ?_
  refine gk_iload_n (pc := 235) 1 d_M_call_235 rfl ?_
  refine gk_callV (pc := 236) (d := (d + 6)) (w' := gv_V) (as := [.int v2]) (n := 1) 7 d_M_call_236 rfl rfl rfl rfl (Nat.le_of_ble_eq_true rfl) tw_1920 tw_1922 tw_39 tw_99 cw_M_finish hy_M_finish (Nat.le_of_ble_eq_true rfl) (p_M_finish (d + 4) v0 v2 h) fun _ h1 => ?_
  exact gk_vret (pc := 239) rfl d_M_call_239 rfl
theorem p_M_call_b84 (d : Nat)  (v0 : Option Nat) (v1 : Int32) (v2 : Int32) (s0 : Option Nat) (s1 : Int32) (h : gk_H) : gk_P gw_V (d + 7) y_M_call b_M_call 6 none [] (f_M_call_b84  v0 v1 v2 s0 s1 h) 84 [(0, va_rf v0), (1, .int v1), (2, .int v2)] [.int s1, va_rf s0] h := by
  unfold f_M_call_b84
  refine gk_putfield (pc := 84) 7 0 d_M_call_84 rfl (Nat.le_of_ble_eq_true rfl) tw_1645 (Or.inl rfl) fun h1 => ?_
  refine gk_aload_n (pc := 87) 0 d_M_call_87 rfl ?_
  refine gk_getI (pc := 88) 7 0 d_M_call_88 rfl (Nat.le_of_ble_eq_true rfl) tw_1645 fun x1 => ?_
  refine gk_if_le (pc := 91) 95 d_M_call_91 rfl (fun _ => ?_) (fun _ => ?_)
  · refine gk_aload_n (pc := 95) 0 d_M_call_95 rfl ?_
    refine gk_iconst (pc := 96) (0 : Int32) d_M_call_96 rfl ?_
    refine gk_putfield (pc := 97) 7 11 d_M_call_97 rfl (Nat.le_of_ble_eq_true rfl) tw_1656 (Or.inl rfl) fun h2 => ?_
    refine gk_aload_n (pc := 100) 0 d_M_call_100 rfl ?_
    refine gk_getI (pc := 101) 7 3 d_M_call_101 rfl (Nat.le_of_ble_eq_true rfl) tw_1648 fun x2 => ?_
    refine gk_iload_n (pc := 104) 2 d_M_call_104 rfl ?_
    refine gk_isub (pc := 105) d_M_call_105 ?_
    refine gk_topI (pc := 106) fun x3 => ?_
    refine gk_istore (pc := 106) (L' := [(5, .int x3), (0, va_rf v0), (1, .int v1), (2, .int v2)]) d_M_call_106 (Nat.le_of_ble_eq_true rfl) rfl ?_
    refine gk_iload_n (pc := 108) 2 d_M_call_108 rfl ?_
    refine gk_bipush (pc := 109) (15 : Int32) d_M_call_109 rfl ?_
    refine gk_icmp_ge (pc := 111) 125 d_M_call_111 rfl (fun _ => ?_) (fun _ => ?_)
    · refine gk_iload_n (pc := 125) 2 d_M_call_125 rfl ?_
      refine gk_bipush (pc := 126) (19 : Int32) d_M_call_126 rfl ?_
      refine gk_icmp_ge (pc := 128) 142 d_M_call_128 rfl (fun _ => ?_) (fun _ => ?_)
      · refine gk_iload_n (pc := 142) 2 d_M_call_142 rfl ?_
        refine gk_bipush (pc := 143) (35 : Int32) d_M_call_143 rfl ?_
        refine gk_icmp_ge (pc := 145) 159 d_M_call_145 rfl (fun _ => ?_) (fun _ => ?_)
        · refine gk_iload_n (pc := 159) 2 d_M_call_159 rfl ?_
          refine gk_bipush (pc := 160) (46 : Int32) d_M_call_160 rfl ?_
          refine gk_icmp_ge (pc := 162) 176 d_M_call_162 rfl (fun _ => ?_) (fun _ => ?_)
          · refine gk_iload_n (pc := 176) 2 d_M_call_176 rfl ?_
            refine gk_bipush (pc := 177) (56 : Int32) d_M_call_177 rfl ?_
            refine gk_icmp_ge (pc := 179) 192 d_M_call_179 rfl (fun _ => ?_) (fun _ => ?_)
            · refine gk_iload_n (pc := 192) 2 d_M_call_192 rfl ?_
              refine gk_bipush (pc := 193) (74 : Int32) d_M_call_193 rfl ?_
              refine gk_icmp_ge (pc := 195) 209 d_M_call_195 rfl (fun _ => ?_) (fun _ => ?_)
              · refine gk_iload_n (pc := 209) 2 d_M_call_209 rfl ?_
                refine gk_bipush (pc := 210) (81 : Int32) d_M_call_210 rfl ?_
                refine gk_icmp_ge (pc := 212) 226 d_M_call_212 rfl (fun _ => ?_) (fun _ => ?_)
                · refine gk_aload_n (pc := 226) 1 d_M_call_226 rfl ?_
                  refine gk_iload_n (pc := 227) 2 d_M_call_227 rfl ?_
                  refine gk_iload (pc := 228) 0 d_M_call_228 rfl ?_
                  refine gk_iload_n (pc := 230) 3 d_M_call_230 rfl ?_
                  refine gk_callV (pc := 231) (d := (d + 6)) (w' := gv_V) (as := [.int v1, .int x3, .int v2]) (n := 3) 7 d_M_call_231 rfl rfl rfl rfl (Nat.le_of_ble_eq_true rfl) tw_2132 tw_2134 tw_84 tw_99 cw_M_days hy_M_days (Nat.le_of_ble_eq_true rfl) (p_M_days d v0 v1 x3 v2 h2) fun _ h3 => ?_
                  refine gk_weak [1, 3] (L' := [(0, va_rf v0), (2, .int v2)]) rfl ?_
                  exact p_M_call_b234 d v0 v2 h3
                · refine gk_aload_n (pc := 215) 1 d_M_call_215 rfl ?_
                  refine gk_iload_n (pc := 216) 2 d_M_call_216 rfl ?_
                  refine gk_iload (pc := 217) 0 d_M_call_217 rfl ?_
                  refine gk_iload_n (pc := 219) 3 d_M_call_219 rfl ?_
                  refine gk_callV (pc := 220) (d := (d + 6)) (w' := gv_V) (as := [.int v1, .int x3, .int v2]) (n := 3) 7 d_M_call_220 rfl rfl rfl rfl (Nat.le_of_ble_eq_true rfl) tw_2108 tw_2110 tw_78 tw_99 cw_M_lookups hy_M_lookups (Nat.le_of_ble_eq_true rfl) (p_M_lookups d v0 v1 x3 v2 h2) fun _ h4 => ?_
                  refine gk_goto (pc := 223) 234 d_M_call_223 rfl ?_
                  refine gk_weak [1, 3] (L' := [(0, va_rf v0), (2, .int v2)]) rfl ?_
                  exact p_M_call_b234 d v0 v2 h4
              · refine gk_aload_n (pc := 198) 1 d_M_call_198 rfl ?_
                refine gk_iload_n (pc := 199) 2 d_M_call_199 rfl ?_
                refine gk_iload (pc := 200) 0 d_M_call_200 rfl ?_
                refine gk_iload_n (pc := 202) 3 d_M_call_202 rfl ?_
                refine gk_callV (pc := 203) (d := (d + 6)) (w' := gv_V) (as := [.int v1, .int x3, .int v2]) (n := 3) 7 d_M_call_203 rfl rfl rfl rfl (Nat.le_of_ble_eq_true rfl) tw_2074 tw_2076 tw_70 tw_99 cw_M_texts hy_M_texts (Nat.le_of_ble_eq_true rfl) (p_M_texts d v0 v1 x3 v2 h2) fun _ h5 => ?_
                refine gk_goto (pc := 206) 234 d_M_call_206 rfl ?_
                refine gk_weak [1, 3] (L' := [(0, va_rf v0), (2, .int v2)]) rfl ?_
                exact p_M_call_b234 d v0 v2 h5
            · refine gk_aload_n (pc := 182) 1 d_M_call_182 rfl ?_
              refine gk_iload_n (pc := 183) 2 d_M_call_183 rfl ?_
              refine gk_iload (pc := 184) 0 d_M_call_184 rfl ?_
              refine gk_callV (pc := 186) (d := (d + 6)) (w' := gv_V) (as := [.int v1, .int x3]) (n := 2) 7 d_M_call_186 rfl rfl rfl rfl (Nat.le_of_ble_eq_true rfl) tw_2063 tw_2065 tw_68 tw_99 cw_M_kindsOf hy_M_kindsOf (Nat.le_of_ble_eq_true rfl) (p_M_kindsOf (d + 3) v0 v1 x3 h2) fun _ h6 => ?_
              refine gk_goto (pc := 189) 234 d_M_call_189 rfl ?_
              refine gk_weak [1, 3] (L' := [(0, va_rf v0), (2, .int v2)]) rfl ?_
              exact p_M_call_b234 d v0 v2 h6
          · refine gk_aload_n (pc := 165) 1 d_M_call_165 rfl ?_
            refine gk_iload_n (pc := 166) 2 d_M_call_166 rfl ?_
            refine gk_iload (pc := 167) 0 d_M_call_167 rfl ?_
            refine gk_iload_n (pc := 169) 3 d_M_call_169 rfl ?_
            refine gk_callV (pc := 170) (d := (d + 6)) (w' := gv_V) (as := [.int v1, .int x3, .int v2]) (n := 3) 7 d_M_call_170 rfl rfl rfl rfl (Nat.le_of_ble_eq_true rfl) tw_2046 tw_2048 tw_64 tw_99 cw_M_choices hy_M_choices (Nat.le_of_ble_eq_true rfl) (p_M_choices (d + 1) v0 v1 x3 v2 h2) fun _ h7 => ?_
            refine gk_goto (pc := 173) 234 d_M_call_173 rfl ?_
            refine gk_weak [1, 3] (L' := [(0, va_rf v0), (2, .int v2)]) rfl ?_
            exact p_M_call_b234 d v0 v2 h7
        · refine gk_aload_n (pc := 148) 1 d_M_call_148 rfl ?_
          refine gk_iload_n (pc := 149) 2 d_M_call_149 rfl ?_
          refine gk_iload (pc := 150) 0 d_M_call_150 rfl ?_
          refine gk_iload_n (pc := 152) 3 d_M_call_152 rfl ?_
          refine gk_callV (pc := 153) (d := (d + 6)) (w' := gv_V) (as := [.int v1, .int x3, .int v2]) (n := 3) 7 d_M_call_153 rfl rfl rfl rfl (Nat.le_of_ble_eq_true rfl) tw_2003 tw_2005 tw_57 tw_99 cw_M_numbers hy_M_numbers (Nat.le_of_ble_eq_true rfl) (p_M_numbers d v0 v1 x3 v2 h2) fun _ h8 => ?_
          refine gk_goto (pc := 156) 234 d_M_call_156 rfl ?_
          refine gk_weak [1, 3] (L' := [(0, va_rf v0), (2, .int v2)]) rfl ?_
          exact p_M_call_b234 d v0 v2 h8
      · refine gk_aload_n (pc := 131) 1 d_M_call_131 rfl ?_
        refine gk_iload_n (pc := 132) 2 d_M_call_132 rfl ?_
        refine gk_iload (pc := 133) 0 d_M_call_133 rfl ?_
        refine gk_iload_n (pc := 135) 3 d_M_call_135 rfl ?_
        refine gk_callV (pc := 136) (d := (d + 6)) (w' := gv_V) (as := [.int v1, .int x3, .int v2]) (n := 3) 7 d_M_call_136 rfl rfl rfl rfl (Nat.le_of_ble_eq_true rfl) tw_1983 tw_1985 tw_52 tw_99 cw_M_conditions hy_M_conditions (Nat.le_of_ble_eq_true rfl) (p_M_conditions (d + 3) v0 v1 x3 v2 h2) fun _ h9 => ?_
        refine gk_goto (pc := 139) 234 d_M_call_139 rfl ?_
        refine gk_weak [1, 3] (L' := [(0, va_rf v0), (2, .int v2)]) rfl ?_
        exact p_M_call_b234 d v0 v2 h9
    · refine gk_aload_n (pc := 114) 1 d_M_call_114 rfl ?_
      refine gk_iload_n (pc := 115) 2 d_M_call_115 rfl ?_
      refine gk_iload (pc := 116) 0 d_M_call_116 rfl ?_
      refine gk_iload_n (pc := 118) 3 d_M_call_118 rfl ?_
      refine gk_callV (pc := 119) (d := (d + 6)) (w' := gv_V) (as := [.int v1, .int x3, .int v2]) (n := 3) 7 d_M_call_119 rfl rfl rfl rfl (Nat.le_of_ble_eq_true rfl) tw_1934 tw_1936 tw_40 tw_99 cw_M_figures hy_M_figures (Nat.le_of_ble_eq_true rfl) (p_M_figures d v0 v1 x3 v2 h2) fun _ h10 => ?_
      refine gk_goto (pc := 122) 234 d_M_call_122 rfl ?_
      refine gk_weak [1, 3] (L' := [(0, va_rf v0), (2, .int v2)]) rfl ?_
      exact p_M_call_b234 d v0 v2 h10
  · exact gk_vret (pc := 94) rfl d_M_call_94 rfl
theorem p_M_call_b83 (d : Nat)  (v0 : Option Nat) (v1 : Int32) (v2 : Int32) (s0 : Option Nat) (h : gk_H) : gk_P gw_V (d + 7) y_M_call b_M_call 6 none [] (f_M_call_b83  v0 v1 v2 s0 h) 83 [(0, va_rf v0), (1, .int v1), (2, .int v2)] [va_rf s0] h := by
  unfold f_M_call_b83
  refine gk_iconst (pc := 83) (0 : Int32) d_M_call_83 rfl ?_
  exact p_M_call_b84 d v0 v1 v2 s0 (0 : Int32) h
theorem p_M_call_b55 (d : Nat)  (v0 : Option Nat) (v1 : Int32) (v2 : Int32) (s0 : Int32) (h : gk_H) : gk_P gw_V (d + 7) y_M_call b_M_call 6 none [] (f_M_call_b55  v0 v1 v2 s0 h) 55 [(0, va_rf v0), (1, .int v1), (2, .int v2)] [.int s0] h := by
  unfold f_M_call_b55
  refine gk_istore (pc := 55) (L' := [(4, .int s0), (0, va_rf v0), (1, .int v1), (2, .int v2)]) d_M_call_55 (Nat.le_of_ble_eq_true rfl) rfl ?_
  refine gk_aload_n (pc := 57) 1 d_M_call_57 rfl ?_
  refine gk_iload (pc := 58) 0 d_M_call_58 rfl ?_
  refine gk_if_ne (pc := 60) 67 d_M_call_60 rfl (fun _ => ?_) (fun _ => ?_)
  · refine gk_iconst (pc := 63) (1 : Int32) d_M_call_63 rfl ?_
    refine gk_goto (pc := 64) 84 d_M_call_64 rfl ?_
    refine gk_weak [1, 2, 3] (L' := [(0, va_rf v0), (1, .int v1), (2, .int v2)]) rfl ?_
    exact p_M_call_b84 d v0 v1 v2 v0 (1 : Int32) h
  · refine gk_iload_n (pc := 67) 3 d_M_call_67 rfl ?_
    refine gk_if_ne (pc := 68) 83 d_M_call_68 rfl (fun _ => ?_) (fun _ => ?_)
    · refine gk_aload_n (pc := 71) 1 d_M_call_71 rfl ?_
      refine gk_iconst (pc := 72) (1 : Int32) d_M_call_72 rfl ?_
      refine gk_callV (pc := 73) (d := (d + 6)) (w' := gv_I) (as := [.int (1 : Int32)]) (n := 1) 7 d_M_call_73 rfl rfl rfl rfl (by simp [gk_cat_rf, gk_catI, gk_catJ, gk_catD, gv_V, gv_I, gv_J, gv_D, gv_R]) tw_1729 tw_1731 tw_14 tw_99 cw_M_isFull hy_M_isFull (Nat.le_of_ble_eq_true rfl) (p_M_isFull (d + 6) v0 (1 : Int32) h) fun x1 h1 => ?_
      refine gk_if_eq (pc := 76) 83 d_M_call_76 rfl (fun _ => ?_) (fun _ => ?_)
      · refine gk_weak [1, 2, 3] (L' := [(0, va_rf v0), (1, .int v1), (2, .int v2)]) rfl ?_
        exact p_M_call_b83 d v0 v1 v2 v0 h1
      · refine gk_iconst (pc := 79) (2 : Int32) d_M_call_79 rfl ?_
        refine gk_goto (pc := 80) 84 d_M_call_80 rfl ?_
        refine gk_weak [1, 2, 3] (L' := [(0, va_rf v0), (1, .int v1), (2, .int v2)]) rfl ?_
        exact p_M_call_b84 d v0 v1 v2 v0 (2 : Int32) h1
    · refine gk_weak [1, 2, 3] (L' := [(0, va_rf v0), (1, .int v1), (2, .int v2)]) rfl ?_
      exact p_M_call_b83 d v0 v1 v2 v0 h
theorem p_M_call_b54 (d : Nat)  (v0 : Option Nat) (v1 : Int32) (v2 : Int32) (h : gk_H) : gk_P gw_V (d + 7) y_M_call b_M_call 6 none [] (f_M_call_b54  v0 v1 v2 h) 54 [(0, va_rf v0), (1, .int v1), (2, .int v2)] [] h := by
  unfold f_M_call_b54
  refine gk_iconst (pc := 54) (0 : Int32) d_M_call_54 rfl ?_
  exact p_M_call_b55 d v0 v1 v2 (0 : Int32) h
theorem p_M_call_b15 (d : Nat)  (v0 : Option Nat) (v1 : Int32) (v2 : Int32) (s0 : Int32) (h : gk_H) : gk_P gw_V (d + 7) y_M_call b_M_call 6 none [] (f_M_call_b15  v0 v1 v2 s0 h) 15 [(0, va_rf v0), (1, .int v1), (2, .int v2)] [.int s0] h := by
  unfold f_M_call_b15
  refine gk_istore_n (pc := 15) (L' := [(3, .int s0), (0, va_rf v0), (1, .int v1), (2, .int v2)]) d_M_call_15 (Nat.le_of_ble_eq_true rfl) rfl ?_
  refine gk_iload_n (pc := 16) 0 d_M_call_16 rfl ?_
  refine gk_if_eq (pc := 17) 54 d_M_call_17 rfl (fun _ => ?_) (fun _ => ?_)
  · refine gk_weak [1, 2, 3] (L' := [(0, va_rf v0), (1, .int v1), (2, .int v2)]) rfl ?_
    exact p_M_call_b54 d v0 v1 v2 h
  · refine gk_iload_n (pc := 20) 3 d_M_call_20 rfl ?_
    refine gk_iload_n (pc := 21) 2 d_M_call_21 rfl ?_
    refine gk_callS (pc := 22) (d := (d + 6)) (w' := gv_I) (as := [.int v1]) (n := 1) d_M_call_22 rfl rfl (Nat.le_of_ble_eq_true rfl) tw_1928 tw_1929 tw_99 cw_M_takes hy_M_takes (Nat.le_of_ble_eq_true rfl) (p_M_takes (d + 5) v1 h) fun x1 h1 => ?_
    refine gk_bipush (pc := 25) (10 : Int32) d_M_call_25 rfl ?_
    refine gk_idiv (pc := 27) (by decide) d_M_call_27 ?_
    refine gk_icmp_lt (pc := 28) 54 d_M_call_28 rfl (fun _ => ?_) (fun _ => ?_)
    · refine gk_weak [1, 2, 3] (L' := [(0, va_rf v0), (1, .int v1), (2, .int v2)]) rfl ?_
      exact p_M_call_b54 d v0 v1 v2 h1
    · refine gk_iload_n (pc := 31) 3 d_M_call_31 rfl ?_
      refine gk_iload_n (pc := 32) 2 d_M_call_32 rfl ?_
      refine gk_callS (pc := 33) (d := (d + 6)) (w' := gv_I) (as := [.int v1]) (n := 1) d_M_call_33 rfl rfl (Nat.le_of_ble_eq_true rfl) tw_1928 tw_1929 tw_99 cw_M_takes hy_M_takes (Nat.le_of_ble_eq_true rfl) (p_M_takes (d + 5) v1 h1) fun x2 h2 => ?_
      refine gk_bipush (pc := 36) (10 : Int32) d_M_call_36 rfl ?_
      refine gk_irem (pc := 38) (by decide) d_M_call_38 ?_
      refine gk_icmp_gt (pc := 39) 54 d_M_call_39 rfl (fun _ => ?_) (fun _ => ?_)
      · refine gk_weak [1, 2, 3] (L' := [(0, va_rf v0), (1, .int v1), (2, .int v2)]) rfl ?_
        exact p_M_call_b54 d v0 v1 v2 h2
      · refine gk_iload_n (pc := 42) 3 d_M_call_42 rfl ?_
        refine gk_aload_n (pc := 43) 1 d_M_call_43 rfl ?_
        refine gk_getI (pc := 44) 7 3 d_M_call_44 rfl (Nat.le_of_ble_eq_true rfl) tw_1648 fun x3 => ?_
        refine gk_icmp_gt (pc := 47) 54 d_M_call_47 rfl (fun _ => ?_) (fun _ => ?_)
        · refine gk_weak [1, 2, 3] (L' := [(0, va_rf v0), (1, .int v1), (2, .int v2)]) rfl ?_
          exact p_M_call_b54 d v0 v1 v2 h2
        · refine gk_iconst (pc := 50) (1 : Int32) d_M_call_50 rfl ?_
          refine gk_goto (pc := 51) 55 d_M_call_51 rfl ?_
          refine gk_weak [1, 2, 3] (L' := [(0, va_rf v0), (1, .int v1), (2, .int v2)]) rfl ?_
          exact p_M_call_b55 d v0 v1 v2 (1 : Int32) h2
theorem p_M_call_b14 (d : Nat)  (v0 : Option Nat) (v1 : Int32) (v2 : Int32) (h : gk_H) : gk_P gw_V (d + 7) y_M_call b_M_call 6 none [] (f_M_call_b14  v0 v1 v2 h) 14 [(0, va_rf v0), (1, .int v1), (2, .int v2)] [] h := by
  unfold f_M_call_b14
  refine gk_iconst (pc := 14) (0 : Int32) d_M_call_14 rfl ?_
  exact p_M_call_b15 d v0 v1 v2 (0 : Int32) h
theorem w_M_call (d : Nat) (a0 : Option Nat) (a1 : Int32) (a2 : Int32) (h : gk_H) : gk_P gw_V (d + 7) y_M_call b_M_call 6 none [] (f_M_call a0 a1 a2 h) 0 [(0, va_rf a0), (1, .int a1), (2, .int a2)] [] h := by
  unfold f_M_call
  refine gk_iload_n (pc := 0) 1 d_M_call_0 rfl ?_
  refine gk_if_lt (pc := 1) 14 d_M_call_1 rfl (fun _ => ?_) (fun _ => ?_)
  · exact p_M_call_b14 d a0 a1 a2 h
  · refine gk_iload_n (pc := 4) 1 d_M_call_4 rfl ?_
    refine gk_bipush (pc := 5) (92 : Int32) d_M_call_5 rfl ?_
    refine gk_icmp_ge (pc := 7) 14 d_M_call_7 rfl (fun _ => ?_) (fun _ => ?_)
    · exact p_M_call_b14 d a0 a1 a2 h
    · refine gk_iconst (pc := 10) (1 : Int32) d_M_call_10 rfl ?_
      refine gk_goto (pc := 11) 15 d_M_call_11 rfl ?_
      exact p_M_call_b15 d a0 a1 a2 (1 : Int32) h
theorem p_M_call (d : Nat) (a0 : Option Nat) (a1 : Int32) (a2 : Int32) (h : gk_H) : ∀ r h1, f_M_call a0 a1 a2 h = some (r, h1) → gk_M (d + 7) y_M_call b_M_call 6 none [va_rf a0, .int a1, .int a2] h (.inl (gv_V r)) h1 :=
  fun r h1 e => gk_M_of2 (by decide +kernel) (by simp [lv_args, gk_cat_rf, gk_catI, gk_catJ, gk_catD, gv_V, gv_I, gv_J, gv_D, gv_R]) (by simp [lg_sl, gk_cat_rf, gk_catI, gk_catJ, gk_catD, gv_V, gv_I, gv_J, gv_D, gv_R]) (w_M_call d a0 a1 a2 h r h1 e)
