/-! THE PURE PART: what the reference wants of an argument -/
theorem d2i_i2d' (a : Int32) : FP.d2i (FP.i2d a) = a := FP.Core.d2i_i2d a
theorem nl_val_ok {l : List Nat} (h : nl_is l = true) : fd_n (nl_val l) ∧ fd_c (nl_val l) = nl_val l := by
  obtain ⟨w1, w2, w3⟩ := nl_bound (nl_is_dig h)
  obtain ⟨-, -, p3, p4⟩ := nl_x_ok (nl_fold l).1 (nl_fold l).2.1 (l.contains 37) (l.contains 45) w1 (by omega) (by omega)
  exact ⟨p3, p4⟩
theorem mc.src {S : gv_S} {c : Nat} {x : gp_C} (hm : mc S c x) (hx : gp_okC x) (hc : c < 272) (h : gk_H) : m_src h S 38 (256 * c) x.2.2.2 := by
  have hl := hx.2.2.2.2.2.2.2.2.1
  refine ⟨fun k hk β K => ?_, ok_t128 hx, by omega, by omega⟩
  rw [ga_38 (by omega), hm.2.2.2 k hk]
/-- bad and read alone -/
def mQ (a b : Nat) : Prop := a = 30 ∧ (b = 11 ∨ b = 16)
theorem mQ_st {a b : Nat} (h : mQ a b) : mSt a b := by
  unfold mQ at h
  unfold mSt
  omega
def mB (a b : Nat) : Prop := a = 30 ∧ b = 11
theorem mB_q {a b : Nat} (h : mB a b) : mQ a b := by
  unfold mB at h
  unfold mQ
  omega
theorem mv.q {P : Nat → Nat → Prop} {S S' : gv_S} {v : Nat} {V : gp_V} (a : mv S v V) (q : mX P S S') (h : ∀ a b, P a b → a < 32 ∨ 38 < a) : mv S' v V := a.X q fun x y z => by
  have := h x y z
  omega
theorem sp_1_c {V : gp_V} (h : V.2.1 * V.2.2.1 = 1) : sp_1 V = V.2.2.2 0 := if_pos h
theorem sp_1_e {V : gp_V} (h : ¬ V.2.1 * V.2.2.1 = 1) : sp_1 V = gc_e 3 := if_neg h
theorem i2d_small : ∀ e : Fin 9, fd_k (FP.i2d (gI e.val)) = 0 ↔ e.val = 0 := by decide +kernel
theorem fd_53a {x : UInt64} : fd_n 0x4340000000000000 ∧ fd_n 0xc340000000000000 := ⟨fd_53_n, fd_m53_n⟩
section MW
variable {h : gk_H} {S : gv_S} {f : Nat}
theorem m_numberOf {c : Nat} {x : gp_C} (hm : mc S c x) (hx : gp_okC x) (hc : c < 272) (hb : S.1 30 11 = gI f) (hf : f ≤ 8) : ∃ S', f_M_numberOf (some 30) (gI c) (gv_ov h S) = some ((sp_num x).2, gv_ov h S') ∧ mX mQ S S' ∧ S'.1 30 11 = gI (bl f (sp_num x).1) := by
  have hsrc := hm.src hx hc h
  obtain ⟨a1, a2, a3, a4⟩ := hm
  have hl := hx.2.2.2.2.2.2.2.2.1
  have hk4 := hx.1
  have hN := m_isNum hsrc
  unfold f_M_numberOf f_M_numberOf_b99 f_M_numberOf_b52
  simp (disch := (first | omega | assumption | exact fd_0_n | exact fd_53_n | exact fd_m53_n)) only [↓gg_30_0, ↓gs_30_0, ↓gg_30_1, ↓gs_30_1, ↓gg_30_3, ↓gs_30_3, ↓gg_30_11, ↓gs_30_11, ↓gg_30_12, ↓gs_30_12, ↓gg_30_16, ↓gs_30_16, ↓gg_30_17, ↓gs_30_17, ↓gg_30_18, ↓gs_30_18, ↓gg_30_19, ↓gs_30_19, ↓gg_30_20, ↓gs_30_20, ↓gg_30_21, ↓gs_30_21, ↓gg_30_22, ↓gs_30_22, ↓gg_30_23, ↓gs_30_23, ↓gg_30_24, ↓gs_30_24, ↓gr_30_2, ↓gr_30_4, ↓gr_30_5, ↓gr_30_6, ↓gr_30_7, ↓gr_30_8, ↓gr_30_9, ↓gr_30_10, ↓gr_30_13, ↓gr_30_14, ↓gr_30_15, ↓gc_30, ↓ga_31, ↓gt_31, ↓gl_31, ↓ga_32, ↓gt_32, ↓gl_32, ↓ga_33, ↓gt_33, ↓gl_33, ↓ga_34, ↓gt_34, ↓gl_34, ↓ga_35, ↓gt_35, ↓gl_35, ↓ga_36, ↓gt_36, ↓gl_36, ↓ga_37, ↓gt_37, ↓gl_37, ↓ga_38, ↓gt_38, ↓gl_38, ↓ga_39, ↓gt_39, ↓gl_39, ↓ga_40, ↓gt_40, ↓gl_40, ↓ga_41, ↓gt_41, ↓gl_41, ↓gk_let_eq, ↓gk_ca_some, ↓Option.bind_some, gIl_0, gIl_1, gIl_2, gIl_3, gIl_4, gIl_5, gIl_6, gIl_7, gIl_8, gIl_9, gIl_10, gIl_11, gIl_12, gIl_13, gIl_14, gIl_15, gIl_16, gIl_17, gIl_18, gIl_19, gIl_20, gIl_21, gIl_22, gIl_23, gIl_24, gIl_25, gIl_26, gIl_27, gIl_28, gIl_29, gIl_30, gIl_31, gIl_32, gIl_33, gIl_34, gIl_35, gIl_36, gIl_37, gIl_38, gIl_39, gIl_40, gIl_41, gIl_42, gIl_43, gIl_44, gIl_45, gIl_46, gIl_47, gIl_48, gIl_49, gIl_50, gIl_51, gIl_52, gIl_53, gIl_54, gIl_55, gIl_56, gIl_57, gIl_58, gIl_59, gIl_60, gIl_61, gIl_62, gIl_63, gIl_64, gIl_65, gIl_66, gIl_67, gIl_68, gIl_69, gIl_70, gIl_71, gIl_72, gIl_73, gIl_74, gIl_75, gIl_76, gIl_77, gIl_78, gIl_79, gIl_80, gIl_81, gIl_82, gIl_83, gIl_84, gIl_85, gIl_86, gIl_87, gIl_88, gIl_89, gIl_90, gIl_91, gIl_92, gIl_97, gIl_99, gIl_100, gIl_122, gIl_126, gIl_255, gIl_256, gIl_365, gIl_400, gIl_460, gIl_1900, gIl_3600, gIl_4096, gIl_32767, gIl_65536, gIl_86400, gI_add, gI_mul, gI_sub, ite_le, ite_lt, ite_eq, gI_le, gI_lt, gI_eq, gu_I1, gu_I2, gu_I3, gu_I4, gu_D1, gu_D2, gu_D3, gu_D4, fj_lt, fj_le, fj_gt, fj_ge, fj_eq, ju_lt, ju_le, ju_gt, ju_ge, ju_eq, if_true, if_false, a1, a2, a3]
  unfold sp_num
  by_cases e4 : x.1 = 4
  · have hmd : md x = FP.i2d (gI x.2.1) := by unfold md; rw [if_neg (by omega)]
    rw [if_pos e4, hmd, d2i_i2d', m_fail f x.2.1 hb hf, gk_ca_some, if_neg (by omega), if_neg (by omega), if_neg (by omega)]
    refine ⟨_, rfl, mX.I _ ⟨rfl, Or.inl rfl⟩, ?_⟩
    rw [gu_I2]
    unfold sp_err
    rw [if_pos e4]
  · rw [if_neg e4]
    by_cases e2 : x.1 = 2
    · rw [if_pos e2, hN, gk_ca_some, ite_BI, if_neg (show ¬ x.1 = 1 by omega), if_pos e2]
      by_cases e : nl_is x.2.2.2 = true
      · obtain ⟨v1, v2⟩ := nl_val_ok e
        have e16 : (gv_uD S 30 16 (nl_val x.2.2.2)).2.1 30 16 = nl_val x.2.2.2 := gu_D2 _ _ _ _
        rw [if_pos e, if_pos e, if_pos e]
        simp (disch := (first | omega | assumption | exact fd_0_n | exact fd_53_n | exact fd_m53_n)) only [↓gg_30_0, ↓gs_30_0, ↓gg_30_1, ↓gs_30_1, ↓gg_30_3, ↓gs_30_3, ↓gg_30_11, ↓gs_30_11, ↓gg_30_12, ↓gs_30_12, ↓gg_30_16, ↓gs_30_16, ↓gg_30_17, ↓gs_30_17, ↓gg_30_18, ↓gs_30_18, ↓gg_30_19, ↓gs_30_19, ↓gg_30_20, ↓gs_30_20, ↓gg_30_21, ↓gs_30_21, ↓gg_30_22, ↓gs_30_22, ↓gg_30_23, ↓gs_30_23, ↓gg_30_24, ↓gs_30_24, ↓gr_30_2, ↓gr_30_4, ↓gr_30_5, ↓gr_30_6, ↓gr_30_7, ↓gr_30_8, ↓gr_30_9, ↓gr_30_10, ↓gr_30_13, ↓gr_30_14, ↓gr_30_15, ↓gc_30, ↓ga_31, ↓gt_31, ↓gl_31, ↓ga_32, ↓gt_32, ↓gl_32, ↓ga_33, ↓gt_33, ↓gl_33, ↓ga_34, ↓gt_34, ↓gl_34, ↓ga_35, ↓gt_35, ↓gl_35, ↓ga_36, ↓gt_36, ↓gl_36, ↓ga_37, ↓gt_37, ↓gl_37, ↓ga_38, ↓gt_38, ↓gl_38, ↓ga_39, ↓gt_39, ↓gl_39, ↓ga_40, ↓gt_40, ↓gl_40, ↓ga_41, ↓gt_41, ↓gl_41, ↓gk_let_eq, ↓gk_ca_some, ↓Option.bind_some, gIl_0, gIl_1, gIl_2, gIl_3, gIl_4, gIl_5, gIl_6, gIl_7, gIl_8, gIl_9, gIl_10, gIl_11, gIl_12, gIl_13, gIl_14, gIl_15, gIl_16, gIl_17, gIl_18, gIl_19, gIl_20, gIl_21, gIl_22, gIl_23, gIl_24, gIl_25, gIl_26, gIl_27, gIl_28, gIl_29, gIl_30, gIl_31, gIl_32, gIl_33, gIl_34, gIl_35, gIl_36, gIl_37, gIl_38, gIl_39, gIl_40, gIl_41, gIl_42, gIl_43, gIl_44, gIl_45, gIl_46, gIl_47, gIl_48, gIl_49, gIl_50, gIl_51, gIl_52, gIl_53, gIl_54, gIl_55, gIl_56, gIl_57, gIl_58, gIl_59, gIl_60, gIl_61, gIl_62, gIl_63, gIl_64, gIl_65, gIl_66, gIl_67, gIl_68, gIl_69, gIl_70, gIl_71, gIl_72, gIl_73, gIl_74, gIl_75, gIl_76, gIl_77, gIl_78, gIl_79, gIl_80, gIl_81, gIl_82, gIl_83, gIl_84, gIl_85, gIl_86, gIl_87, gIl_88, gIl_89, gIl_90, gIl_91, gIl_92, gIl_97, gIl_99, gIl_100, gIl_122, gIl_126, gIl_255, gIl_256, gIl_365, gIl_400, gIl_460, gIl_1900, gIl_3600, gIl_4096, gIl_32767, gIl_65536, gIl_86400, gI_add, gI_mul, gI_sub, ite_le, ite_lt, ite_eq, gI_le, gI_lt, gI_eq, gu_I1, gu_I2, gu_I3, gu_I4, gu_D1, gu_D2, gu_D3, gu_D4, fj_lt, fj_le, fj_gt, fj_ge, fj_eq, ju_lt, ju_le, ju_gt, ju_ge, ju_eq, if_true, if_false, e16]
        refine ⟨gv_uD S 30 16 (nl_val x.2.2.2), ?_, mX.D _ ⟨rfl, Or.inr rfl⟩, ?_⟩
        · rw [fd_k0]
          by_cases z : fd_k (nl_val x.2.2.2) = 0
          · rw [if_pos z]
            unfold fd_c at v2
            rw [if_pos z] at v2
            rw [← v2]
          · rw [if_neg z]
        · rw [bl_0]
          exact hb
      · rw [if_neg e, if_neg e, if_neg e]
        simp (disch := (first | omega | assumption | exact fd_0_n | exact fd_53_n | exact fd_m53_n)) only [↓gg_30_0, ↓gs_30_0, ↓gg_30_1, ↓gs_30_1, ↓gg_30_3, ↓gs_30_3, ↓gg_30_11, ↓gs_30_11, ↓gg_30_12, ↓gs_30_12, ↓gg_30_16, ↓gs_30_16, ↓gg_30_17, ↓gs_30_17, ↓gg_30_18, ↓gs_30_18, ↓gg_30_19, ↓gs_30_19, ↓gg_30_20, ↓gs_30_20, ↓gg_30_21, ↓gs_30_21, ↓gg_30_22, ↓gs_30_22, ↓gg_30_23, ↓gs_30_23, ↓gg_30_24, ↓gs_30_24, ↓gr_30_2, ↓gr_30_4, ↓gr_30_5, ↓gr_30_6, ↓gr_30_7, ↓gr_30_8, ↓gr_30_9, ↓gr_30_10, ↓gr_30_13, ↓gr_30_14, ↓gr_30_15, ↓gc_30, ↓ga_31, ↓gt_31, ↓gl_31, ↓ga_32, ↓gt_32, ↓gl_32, ↓ga_33, ↓gt_33, ↓gl_33, ↓ga_34, ↓gt_34, ↓gl_34, ↓ga_35, ↓gt_35, ↓gl_35, ↓ga_36, ↓gt_36, ↓gl_36, ↓ga_37, ↓gt_37, ↓gl_37, ↓ga_38, ↓gt_38, ↓gl_38, ↓ga_39, ↓gt_39, ↓gl_39, ↓ga_40, ↓gt_40, ↓gl_40, ↓ga_41, ↓gt_41, ↓gl_41, ↓gk_let_eq, ↓gk_ca_some, ↓Option.bind_some, gIl_0, gIl_1, gIl_2, gIl_3, gIl_4, gIl_5, gIl_6, gIl_7, gIl_8, gIl_9, gIl_10, gIl_11, gIl_12, gIl_13, gIl_14, gIl_15, gIl_16, gIl_17, gIl_18, gIl_19, gIl_20, gIl_21, gIl_22, gIl_23, gIl_24, gIl_25, gIl_26, gIl_27, gIl_28, gIl_29, gIl_30, gIl_31, gIl_32, gIl_33, gIl_34, gIl_35, gIl_36, gIl_37, gIl_38, gIl_39, gIl_40, gIl_41, gIl_42, gIl_43, gIl_44, gIl_45, gIl_46, gIl_47, gIl_48, gIl_49, gIl_50, gIl_51, gIl_52, gIl_53, gIl_54, gIl_55, gIl_56, gIl_57, gIl_58, gIl_59, gIl_60, gIl_61, gIl_62, gIl_63, gIl_64, gIl_65, gIl_66, gIl_67, gIl_68, gIl_69, gIl_70, gIl_71, gIl_72, gIl_73, gIl_74, gIl_75, gIl_76, gIl_77, gIl_78, gIl_79, gIl_80, gIl_81, gIl_82, gIl_83, gIl_84, gIl_85, gIl_86, gIl_87, gIl_88, gIl_89, gIl_90, gIl_91, gIl_92, gIl_97, gIl_99, gIl_100, gIl_122, gIl_126, gIl_255, gIl_256, gIl_365, gIl_400, gIl_460, gIl_1900, gIl_3600, gIl_4096, gIl_32767, gIl_65536, gIl_86400, gI_add, gI_mul, gI_sub, ite_le, ite_lt, ite_eq, gI_le, gI_lt, gI_eq, gu_I1, gu_I2, gu_I3, gu_I4, gu_D1, gu_D2, gu_D3, gu_D4, fj_lt, fj_le, fj_gt, fj_ge, fj_eq, ju_lt, ju_le, ju_gt, ju_ge, ju_eq, if_true, if_false, m_fail f 3 hb hf]
        exact ⟨_, rfl, mX.I _ ⟨rfl, Or.inl rfl⟩, gu_I2 _ _ _ _⟩
    · rw [if_neg e2]
      by_cases e0 : x.1 = 0
      · rw [if_pos e0, if_neg (by omega), if_neg (by omega), if_neg (by omega)]
        refine ⟨S, rfl, mX.refl _ _, ?_⟩
        unfold sp_err
        rw [if_neg e4, bl_0]
        exact hb
      · rw [if_neg e0]
        by_cases e1 : x.1 = 1
        · rw [if_pos e1]
          have hmd : md x = x.2.2.1 := if_pos e1
          rw [hmd, bl_0]
          exact ⟨S, rfl, mX.refl _ _, hb⟩
        · have hmd : md x = FP.i2d (gI x.2.1) := if_neg e1
          rw [if_neg e1, if_neg e2, if_pos (by omega), hmd, bl_0]
          exact ⟨S, rfl, mX.refl _ _, hb⟩
theorem m_single' {v : Nat} {V : gp_V} (hm : mv S v V) (hv : v ≤ 16) (hb : S.1 30 11 = gI f) (hf : f ≤ 8) : f_M_single (some 30) (gI v) (gv_ov h S) = some (gI (16 * v), gv_ov h (gv_uI S 30 11 (gI (if V.2.1 * V.2.2.1 = 1 then f else bl f 3)))) := m_single v _ _ f hv hm.2.2.1 hm.2.2.2.1 hm.1.2.2.1 hb hf
theorem mv.c0 {v : Nat} {V : gp_V} (hm : mv S v V) (h1 : V.2.1 * V.2.2.1 = 1) : mc S (16 * v) (sp_1 V) ∧ gp_okC (sp_1 V) := by
  refine ⟨?_, sp_1_ok hm.1⟩
  rw [sp_1_c h1]
  exact hm.2.2.2.2 0 (by omega)
theorem m_wantNumber {v : Nat} {V : gp_V} (hm : mv S v V) (hv : v ≤ 16) (hb : S.1 30 11 = gI f) (hf : f ≤ 8) : ∃ S', f_M_wantNumber (some 30) (gI v) (gv_ov h S) = some (if f = 0 then (sp_num (sp_1 V)).2 else 0, gv_ov h S') ∧ mX mQ S S' ∧ S'.1 30 11 = gI (bl f (sp_num (sp_1 V)).1) := by
  unfold f_M_wantNumber f_M_wantNumber_b31
  simp (disch := (first | omega | assumption | exact fd_0_n | exact fd_53_n | exact fd_m53_n)) only [↓gg_30_0, ↓gs_30_0, ↓gg_30_1, ↓gs_30_1, ↓gg_30_3, ↓gs_30_3, ↓gg_30_11, ↓gs_30_11, ↓gg_30_12, ↓gs_30_12, ↓gg_30_16, ↓gs_30_16, ↓gg_30_17, ↓gs_30_17, ↓gg_30_18, ↓gs_30_18, ↓gg_30_19, ↓gs_30_19, ↓gg_30_20, ↓gs_30_20, ↓gg_30_21, ↓gs_30_21, ↓gg_30_22, ↓gs_30_22, ↓gg_30_23, ↓gs_30_23, ↓gg_30_24, ↓gs_30_24, ↓gr_30_2, ↓gr_30_4, ↓gr_30_5, ↓gr_30_6, ↓gr_30_7, ↓gr_30_8, ↓gr_30_9, ↓gr_30_10, ↓gr_30_13, ↓gr_30_14, ↓gr_30_15, ↓gc_30, ↓ga_31, ↓gt_31, ↓gl_31, ↓ga_32, ↓gt_32, ↓gl_32, ↓ga_33, ↓gt_33, ↓gl_33, ↓ga_34, ↓gt_34, ↓gl_34, ↓ga_35, ↓gt_35, ↓gl_35, ↓ga_36, ↓gt_36, ↓gl_36, ↓ga_37, ↓gt_37, ↓gl_37, ↓ga_38, ↓gt_38, ↓gl_38, ↓ga_39, ↓gt_39, ↓gl_39, ↓ga_40, ↓gt_40, ↓gl_40, ↓ga_41, ↓gt_41, ↓gl_41, ↓gk_let_eq, ↓gk_ca_some, ↓Option.bind_some, gIl_0, gIl_1, gIl_2, gIl_3, gIl_4, gIl_5, gIl_6, gIl_7, gIl_8, gIl_9, gIl_10, gIl_11, gIl_12, gIl_13, gIl_14, gIl_15, gIl_16, gIl_17, gIl_18, gIl_19, gIl_20, gIl_21, gIl_22, gIl_23, gIl_24, gIl_25, gIl_26, gIl_27, gIl_28, gIl_29, gIl_30, gIl_31, gIl_32, gIl_33, gIl_34, gIl_35, gIl_36, gIl_37, gIl_38, gIl_39, gIl_40, gIl_41, gIl_42, gIl_43, gIl_44, gIl_45, gIl_46, gIl_47, gIl_48, gIl_49, gIl_50, gIl_51, gIl_52, gIl_53, gIl_54, gIl_55, gIl_56, gIl_57, gIl_58, gIl_59, gIl_60, gIl_61, gIl_62, gIl_63, gIl_64, gIl_65, gIl_66, gIl_67, gIl_68, gIl_69, gIl_70, gIl_71, gIl_72, gIl_73, gIl_74, gIl_75, gIl_76, gIl_77, gIl_78, gIl_79, gIl_80, gIl_81, gIl_82, gIl_83, gIl_84, gIl_85, gIl_86, gIl_87, gIl_88, gIl_89, gIl_90, gIl_91, gIl_92, gIl_97, gIl_99, gIl_100, gIl_122, gIl_126, gIl_255, gIl_256, gIl_365, gIl_400, gIl_460, gIl_1900, gIl_3600, gIl_4096, gIl_32767, gIl_65536, gIl_86400, gI_add, gI_mul, gI_sub, ite_le, ite_lt, ite_eq, gI_le, gI_lt, gI_eq, gu_I1, gu_I2, gu_I3, gu_I4, gu_D1, gu_D2, gu_D3, gu_D4, fj_lt, fj_le, fj_gt, fj_ge, fj_eq, ju_lt, ju_le, ju_gt, ju_ge, ju_eq, if_true, if_false, hb, m_single' hm hv hb hf]
  by_cases z : f = 0
  · subst z
    rw [if_pos (Nat.le_refl _), if_pos rfl]
    by_cases e : V.2.1 * V.2.2.1 = 1
    · rw [if_pos e, ite_le _ _ _ _ (by decide) (by decide), if_pos (Nat.le_refl _), ← hb, gu_s]
      obtain ⟨c1, c2⟩ := hm.c0 e
      obtain ⟨S', s1, s2, s3⟩ := m_numberOf (h := h) c1 c2 (by omega) hb hf
      rw [s1, gk_ca_some]
      exact ⟨S', rfl, s2, s3⟩
    · rw [if_neg e, if_neg (by decide), sp_1_e e]
      exact ⟨_, rfl, mX.I _ ⟨rfl, Or.inl rfl⟩, gu_I2 _ _ _ _⟩
  · rw [if_neg (by omega), if_neg z, bl_p z]
    exact ⟨S, rfl, mX.refl _ _, hb⟩
theorem m_wantAny {v : Nat} {V : gp_V} (hm : mv S v V) (hv : v ≤ 16) (hb : S.1 30 11 = gI f) (hf : f ≤ 8) : ∃ S', f_M_wantAny (some 30) (gI v) (gv_ov h S) = some (gI (16 * v), gv_ov h S') ∧ mX mQ S S' ∧ S'.1 30 11 = gI (bl f (sp_err (sp_1 V))) := by
  unfold f_M_wantAny f_M_wantAny_b46
  simp (disch := (first | omega | assumption | exact fd_0_n | exact fd_53_n | exact fd_m53_n)) only [↓gg_30_0, ↓gs_30_0, ↓gg_30_1, ↓gs_30_1, ↓gg_30_3, ↓gs_30_3, ↓gg_30_11, ↓gs_30_11, ↓gg_30_12, ↓gs_30_12, ↓gg_30_16, ↓gs_30_16, ↓gg_30_17, ↓gs_30_17, ↓gg_30_18, ↓gs_30_18, ↓gg_30_19, ↓gs_30_19, ↓gg_30_20, ↓gs_30_20, ↓gg_30_21, ↓gs_30_21, ↓gg_30_22, ↓gs_30_22, ↓gg_30_23, ↓gs_30_23, ↓gg_30_24, ↓gs_30_24, ↓gr_30_2, ↓gr_30_4, ↓gr_30_5, ↓gr_30_6, ↓gr_30_7, ↓gr_30_8, ↓gr_30_9, ↓gr_30_10, ↓gr_30_13, ↓gr_30_14, ↓gr_30_15, ↓gc_30, ↓ga_31, ↓gt_31, ↓gl_31, ↓ga_32, ↓gt_32, ↓gl_32, ↓ga_33, ↓gt_33, ↓gl_33, ↓ga_34, ↓gt_34, ↓gl_34, ↓ga_35, ↓gt_35, ↓gl_35, ↓ga_36, ↓gt_36, ↓gl_36, ↓ga_37, ↓gt_37, ↓gl_37, ↓ga_38, ↓gt_38, ↓gl_38, ↓ga_39, ↓gt_39, ↓gl_39, ↓ga_40, ↓gt_40, ↓gl_40, ↓ga_41, ↓gt_41, ↓gl_41, ↓gk_let_eq, ↓gk_ca_some, ↓Option.bind_some, gIl_0, gIl_1, gIl_2, gIl_3, gIl_4, gIl_5, gIl_6, gIl_7, gIl_8, gIl_9, gIl_10, gIl_11, gIl_12, gIl_13, gIl_14, gIl_15, gIl_16, gIl_17, gIl_18, gIl_19, gIl_20, gIl_21, gIl_22, gIl_23, gIl_24, gIl_25, gIl_26, gIl_27, gIl_28, gIl_29, gIl_30, gIl_31, gIl_32, gIl_33, gIl_34, gIl_35, gIl_36, gIl_37, gIl_38, gIl_39, gIl_40, gIl_41, gIl_42, gIl_43, gIl_44, gIl_45, gIl_46, gIl_47, gIl_48, gIl_49, gIl_50, gIl_51, gIl_52, gIl_53, gIl_54, gIl_55, gIl_56, gIl_57, gIl_58, gIl_59, gIl_60, gIl_61, gIl_62, gIl_63, gIl_64, gIl_65, gIl_66, gIl_67, gIl_68, gIl_69, gIl_70, gIl_71, gIl_72, gIl_73, gIl_74, gIl_75, gIl_76, gIl_77, gIl_78, gIl_79, gIl_80, gIl_81, gIl_82, gIl_83, gIl_84, gIl_85, gIl_86, gIl_87, gIl_88, gIl_89, gIl_90, gIl_91, gIl_92, gIl_97, gIl_99, gIl_100, gIl_122, gIl_126, gIl_255, gIl_256, gIl_365, gIl_400, gIl_460, gIl_1900, gIl_3600, gIl_4096, gIl_32767, gIl_65536, gIl_86400, gI_add, gI_mul, gI_sub, ite_le, ite_lt, ite_eq, gI_le, gI_lt, gI_eq, gu_I1, gu_I2, gu_I3, gu_I4, gu_D1, gu_D2, gu_D3, gu_D4, fj_lt, fj_le, fj_gt, fj_ge, fj_eq, ju_lt, ju_le, ju_gt, ju_ge, ju_eq, if_true, if_false, hb, m_single' hm hv hb hf]
  by_cases z : f = 0
  · subst z
    rw [if_pos (Nat.le_refl _)]
    by_cases e : V.2.1 * V.2.2.1 = 1
    · obtain ⟨⟨c1, c2, c3, c4⟩, c5⟩ := hm.c0 e
      have hk4 := c5.1
      rw [if_pos e, if_pos rfl, c1, c2, ite_eq _ _ _ _ (by omega) (by decide), ← hb, gu_s]
      unfold sp_err
      by_cases e4 : (sp_1 V).1 = 4
      · have hmd : md (sp_1 V) = FP.i2d (gI (sp_1 V).2.1) := by unfold md; rw [if_neg (by omega)]
        rw [if_pos e4, if_pos e4, hmd, d2i_i2d', m_fail 0 _ hb hf, gk_ca_some]
        exact ⟨_, rfl, mX.I _ ⟨rfl, Or.inl rfl⟩, gu_I2 _ _ _ _⟩
      · rw [if_neg e4, if_neg e4]
        exact ⟨S, rfl, mX.refl _ _, hb⟩
    · rw [if_neg e, if_neg (by decide), sp_1_e e]
      exact ⟨_, rfl, mX.I _ ⟨rfl, Or.inl rfl⟩, gu_I2 _ _ _ _⟩
  · rw [if_neg (by omega), bl_p z]
    exact ⟨S, rfl, mX.refl _ _, hb⟩
theorem m_wantWhole {v : Nat} {V : gp_V} (hm : mv S v V) (hv : v ≤ 16) (hb : S.1 30 11 = gI f) (hf : f ≤ 8) : ∃ S', f_M_wantWhole (some 30) (gI v) (gv_ov h S) = some (if f = 0 then (sp_who (sp_1 V)).2 else 0, gv_ov h S') ∧ mX mQ S S' ∧ S'.1 30 11 = gI (bl f (sp_who (sp_1 V)).1) := by
  have hok := sp_1_ok hm.1
  obtain ⟨S1, s1, s2, s3⟩ := m_wantNumber (h := h) hm hv hb hf
  have hle := sp_num_le hok
  have hble := bl_le hf hle
  have hn := sp_num_n hok
  unfold f_M_wantWhole f_M_wantWhole_b29 f_M_wantWhole_b35 f_M_wantWhole_b48
  by_cases z : f = 0
  · subst z
    rw [if_pos rfl] at s1 ⊢
    rw [bl_n] at s3 ⊢
    by_cases e : (sp_num (sp_1 V)).1 = 0
    · have hbz : S1.1 30 11 = gI 0 := by rw [s3, e]
      unfold sp_who
      by_cases r : -4845873199050653696 < fd_k (sp_num (sp_1 V)).2 ∧ fd_k (sp_num (sp_1 V)).2 < 4845873199050653696
      · have r1 : ¬ 4845873199050653696 ≤ fd_k (sp_num (sp_1 V)).2 := by omega
        simp (disch := (first | omega | assumption | exact fd_0_n | exact fd_53_n | exact fd_m53_n)) only [↓gg_30_0, ↓gs_30_0, ↓gg_30_1, ↓gs_30_1, ↓gg_30_3, ↓gs_30_3, ↓gg_30_11, ↓gs_30_11, ↓gg_30_12, ↓gs_30_12, ↓gg_30_16, ↓gs_30_16, ↓gg_30_17, ↓gs_30_17, ↓gg_30_18, ↓gs_30_18, ↓gg_30_19, ↓gs_30_19, ↓gg_30_20, ↓gs_30_20, ↓gg_30_21, ↓gs_30_21, ↓gg_30_22, ↓gs_30_22, ↓gg_30_23, ↓gs_30_23, ↓gg_30_24, ↓gs_30_24, ↓gr_30_2, ↓gr_30_4, ↓gr_30_5, ↓gr_30_6, ↓gr_30_7, ↓gr_30_8, ↓gr_30_9, ↓gr_30_10, ↓gr_30_13, ↓gr_30_14, ↓gr_30_15, ↓gc_30, ↓ga_31, ↓gt_31, ↓gl_31, ↓ga_32, ↓gt_32, ↓gl_32, ↓ga_33, ↓gt_33, ↓gl_33, ↓ga_34, ↓gt_34, ↓gl_34, ↓ga_35, ↓gt_35, ↓gl_35, ↓ga_36, ↓gt_36, ↓gl_36, ↓ga_37, ↓gt_37, ↓gl_37, ↓ga_38, ↓gt_38, ↓gl_38, ↓ga_39, ↓gt_39, ↓gl_39, ↓ga_40, ↓gt_40, ↓gl_40, ↓ga_41, ↓gt_41, ↓gl_41, ↓gk_let_eq, ↓gk_ca_some, ↓Option.bind_some, gIl_0, gIl_1, gIl_2, gIl_3, gIl_4, gIl_5, gIl_6, gIl_7, gIl_8, gIl_9, gIl_10, gIl_11, gIl_12, gIl_13, gIl_14, gIl_15, gIl_16, gIl_17, gIl_18, gIl_19, gIl_20, gIl_21, gIl_22, gIl_23, gIl_24, gIl_25, gIl_26, gIl_27, gIl_28, gIl_29, gIl_30, gIl_31, gIl_32, gIl_33, gIl_34, gIl_35, gIl_36, gIl_37, gIl_38, gIl_39, gIl_40, gIl_41, gIl_42, gIl_43, gIl_44, gIl_45, gIl_46, gIl_47, gIl_48, gIl_49, gIl_50, gIl_51, gIl_52, gIl_53, gIl_54, gIl_55, gIl_56, gIl_57, gIl_58, gIl_59, gIl_60, gIl_61, gIl_62, gIl_63, gIl_64, gIl_65, gIl_66, gIl_67, gIl_68, gIl_69, gIl_70, gIl_71, gIl_72, gIl_73, gIl_74, gIl_75, gIl_76, gIl_77, gIl_78, gIl_79, gIl_80, gIl_81, gIl_82, gIl_83, gIl_84, gIl_85, gIl_86, gIl_87, gIl_88, gIl_89, gIl_90, gIl_91, gIl_92, gIl_97, gIl_99, gIl_100, gIl_122, gIl_126, gIl_255, gIl_256, gIl_365, gIl_400, gIl_460, gIl_1900, gIl_3600, gIl_4096, gIl_32767, gIl_65536, gIl_86400, gI_add, gI_mul, gI_sub, ite_le, ite_lt, ite_eq, gI_le, gI_lt, gI_eq, gu_I1, gu_I2, gu_I3, gu_I4, gu_D1, gu_D2, gu_D3, gu_D4, fj_lt, fj_le, fj_gt, fj_ge, fj_eq, ju_lt, ju_le, ju_gt, ju_ge, ju_eq, if_true, if_false, s1, hbz, fd_53_k, fd_m53_k, r.1, r.2, r1, Nat.le_refl, and_self]
        exact ⟨S1, rfl, s2, s3⟩
      · by_cases r2 : 4845873199050653696 ≤ fd_k (sp_num (sp_1 V)).2
        · simp (disch := (first | omega | assumption | exact fd_0_n | exact fd_53_n | exact fd_m53_n)) only [↓gg_30_0, ↓gs_30_0, ↓gg_30_1, ↓gs_30_1, ↓gg_30_3, ↓gs_30_3, ↓gg_30_11, ↓gs_30_11, ↓gg_30_12, ↓gs_30_12, ↓gg_30_16, ↓gs_30_16, ↓gg_30_17, ↓gs_30_17, ↓gg_30_18, ↓gs_30_18, ↓gg_30_19, ↓gs_30_19, ↓gg_30_20, ↓gs_30_20, ↓gg_30_21, ↓gs_30_21, ↓gg_30_22, ↓gs_30_22, ↓gg_30_23, ↓gs_30_23, ↓gg_30_24, ↓gs_30_24, ↓gr_30_2, ↓gr_30_4, ↓gr_30_5, ↓gr_30_6, ↓gr_30_7, ↓gr_30_8, ↓gr_30_9, ↓gr_30_10, ↓gr_30_13, ↓gr_30_14, ↓gr_30_15, ↓gc_30, ↓ga_31, ↓gt_31, ↓gl_31, ↓ga_32, ↓gt_32, ↓gl_32, ↓ga_33, ↓gt_33, ↓gl_33, ↓ga_34, ↓gt_34, ↓gl_34, ↓ga_35, ↓gt_35, ↓gl_35, ↓ga_36, ↓gt_36, ↓gl_36, ↓ga_37, ↓gt_37, ↓gl_37, ↓ga_38, ↓gt_38, ↓gl_38, ↓ga_39, ↓gt_39, ↓gl_39, ↓ga_40, ↓gt_40, ↓gl_40, ↓ga_41, ↓gt_41, ↓gl_41, ↓gk_let_eq, ↓gk_ca_some, ↓Option.bind_some, gIl_0, gIl_1, gIl_2, gIl_3, gIl_4, gIl_5, gIl_6, gIl_7, gIl_8, gIl_9, gIl_10, gIl_11, gIl_12, gIl_13, gIl_14, gIl_15, gIl_16, gIl_17, gIl_18, gIl_19, gIl_20, gIl_21, gIl_22, gIl_23, gIl_24, gIl_25, gIl_26, gIl_27, gIl_28, gIl_29, gIl_30, gIl_31, gIl_32, gIl_33, gIl_34, gIl_35, gIl_36, gIl_37, gIl_38, gIl_39, gIl_40, gIl_41, gIl_42, gIl_43, gIl_44, gIl_45, gIl_46, gIl_47, gIl_48, gIl_49, gIl_50, gIl_51, gIl_52, gIl_53, gIl_54, gIl_55, gIl_56, gIl_57, gIl_58, gIl_59, gIl_60, gIl_61, gIl_62, gIl_63, gIl_64, gIl_65, gIl_66, gIl_67, gIl_68, gIl_69, gIl_70, gIl_71, gIl_72, gIl_73, gIl_74, gIl_75, gIl_76, gIl_77, gIl_78, gIl_79, gIl_80, gIl_81, gIl_82, gIl_83, gIl_84, gIl_85, gIl_86, gIl_87, gIl_88, gIl_89, gIl_90, gIl_91, gIl_92, gIl_97, gIl_99, gIl_100, gIl_122, gIl_126, gIl_255, gIl_256, gIl_365, gIl_400, gIl_460, gIl_1900, gIl_3600, gIl_4096, gIl_32767, gIl_65536, gIl_86400, gI_add, gI_mul, gI_sub, ite_le, ite_lt, ite_eq, gI_le, gI_lt, gI_eq, gu_I1, gu_I2, gu_I3, gu_I4, gu_D1, gu_D2, gu_D3, gu_D4, fj_lt, fj_le, fj_gt, fj_ge, fj_eq, ju_lt, ju_le, ju_gt, ju_ge, ju_eq, if_true, if_false, s1, hbz, fd_53_k, fd_m53_k, r, r2, m_fail 0 6 hbz, bl_n, show ¬ (6 ≤ 0) from by decide]
          exact ⟨_, rfl, s2.trans (mX.I _ ⟨rfl, Or.inl rfl⟩), gu_I2 _ _ _ _⟩
        · have r3 : ¬ -4845873199050653696 < fd_k (sp_num (sp_1 V)).2 := by omega
          simp (disch := (first | omega | assumption | exact fd_0_n | exact fd_53_n | exact fd_m53_n)) only [↓gg_30_0, ↓gs_30_0, ↓gg_30_1, ↓gs_30_1, ↓gg_30_3, ↓gs_30_3, ↓gg_30_11, ↓gs_30_11, ↓gg_30_12, ↓gs_30_12, ↓gg_30_16, ↓gs_30_16, ↓gg_30_17, ↓gs_30_17, ↓gg_30_18, ↓gs_30_18, ↓gg_30_19, ↓gs_30_19, ↓gg_30_20, ↓gs_30_20, ↓gg_30_21, ↓gs_30_21, ↓gg_30_22, ↓gs_30_22, ↓gg_30_23, ↓gs_30_23, ↓gg_30_24, ↓gs_30_24, ↓gr_30_2, ↓gr_30_4, ↓gr_30_5, ↓gr_30_6, ↓gr_30_7, ↓gr_30_8, ↓gr_30_9, ↓gr_30_10, ↓gr_30_13, ↓gr_30_14, ↓gr_30_15, ↓gc_30, ↓ga_31, ↓gt_31, ↓gl_31, ↓ga_32, ↓gt_32, ↓gl_32, ↓ga_33, ↓gt_33, ↓gl_33, ↓ga_34, ↓gt_34, ↓gl_34, ↓ga_35, ↓gt_35, ↓gl_35, ↓ga_36, ↓gt_36, ↓gl_36, ↓ga_37, ↓gt_37, ↓gl_37, ↓ga_38, ↓gt_38, ↓gl_38, ↓ga_39, ↓gt_39, ↓gl_39, ↓ga_40, ↓gt_40, ↓gl_40, ↓ga_41, ↓gt_41, ↓gl_41, ↓gk_let_eq, ↓gk_ca_some, ↓Option.bind_some, gIl_0, gIl_1, gIl_2, gIl_3, gIl_4, gIl_5, gIl_6, gIl_7, gIl_8, gIl_9, gIl_10, gIl_11, gIl_12, gIl_13, gIl_14, gIl_15, gIl_16, gIl_17, gIl_18, gIl_19, gIl_20, gIl_21, gIl_22, gIl_23, gIl_24, gIl_25, gIl_26, gIl_27, gIl_28, gIl_29, gIl_30, gIl_31, gIl_32, gIl_33, gIl_34, gIl_35, gIl_36, gIl_37, gIl_38, gIl_39, gIl_40, gIl_41, gIl_42, gIl_43, gIl_44, gIl_45, gIl_46, gIl_47, gIl_48, gIl_49, gIl_50, gIl_51, gIl_52, gIl_53, gIl_54, gIl_55, gIl_56, gIl_57, gIl_58, gIl_59, gIl_60, gIl_61, gIl_62, gIl_63, gIl_64, gIl_65, gIl_66, gIl_67, gIl_68, gIl_69, gIl_70, gIl_71, gIl_72, gIl_73, gIl_74, gIl_75, gIl_76, gIl_77, gIl_78, gIl_79, gIl_80, gIl_81, gIl_82, gIl_83, gIl_84, gIl_85, gIl_86, gIl_87, gIl_88, gIl_89, gIl_90, gIl_91, gIl_92, gIl_97, gIl_99, gIl_100, gIl_122, gIl_126, gIl_255, gIl_256, gIl_365, gIl_400, gIl_460, gIl_1900, gIl_3600, gIl_4096, gIl_32767, gIl_65536, gIl_86400, gI_add, gI_mul, gI_sub, ite_le, ite_lt, ite_eq, gI_le, gI_lt, gI_eq, gu_I1, gu_I2, gu_I3, gu_I4, gu_D1, gu_D2, gu_D3, gu_D4, fj_lt, fj_le, fj_gt, fj_ge, fj_eq, ju_lt, ju_le, ju_gt, ju_ge, ju_eq, if_true, if_false, s1, hbz, fd_53_k, fd_m53_k, r, r2, r3, m_fail 0 6 hbz, bl_n, show ¬ (6 ≤ 0) from by decide]
          exact ⟨_, rfl, s2.trans (mX.I _ ⟨rfl, Or.inl rfl⟩), gu_I2 _ _ _ _⟩
    · have e' : ¬ (sp_num (sp_1 V)).1 ≤ 0 := by omega
      rw [sp_who_err hok e]
      simp (disch := (first | omega | assumption | exact fd_0_n | exact fd_53_n | exact fd_m53_n)) only [↓gg_30_0, ↓gs_30_0, ↓gg_30_1, ↓gs_30_1, ↓gg_30_3, ↓gs_30_3, ↓gg_30_11, ↓gs_30_11, ↓gg_30_12, ↓gs_30_12, ↓gg_30_16, ↓gs_30_16, ↓gg_30_17, ↓gs_30_17, ↓gg_30_18, ↓gs_30_18, ↓gg_30_19, ↓gs_30_19, ↓gg_30_20, ↓gs_30_20, ↓gg_30_21, ↓gs_30_21, ↓gg_30_22, ↓gs_30_22, ↓gg_30_23, ↓gs_30_23, ↓gg_30_24, ↓gs_30_24, ↓gr_30_2, ↓gr_30_4, ↓gr_30_5, ↓gr_30_6, ↓gr_30_7, ↓gr_30_8, ↓gr_30_9, ↓gr_30_10, ↓gr_30_13, ↓gr_30_14, ↓gr_30_15, ↓gc_30, ↓ga_31, ↓gt_31, ↓gl_31, ↓ga_32, ↓gt_32, ↓gl_32, ↓ga_33, ↓gt_33, ↓gl_33, ↓ga_34, ↓gt_34, ↓gl_34, ↓ga_35, ↓gt_35, ↓gl_35, ↓ga_36, ↓gt_36, ↓gl_36, ↓ga_37, ↓gt_37, ↓gl_37, ↓ga_38, ↓gt_38, ↓gl_38, ↓ga_39, ↓gt_39, ↓gl_39, ↓ga_40, ↓gt_40, ↓gl_40, ↓ga_41, ↓gt_41, ↓gl_41, ↓gk_let_eq, ↓gk_ca_some, ↓Option.bind_some, gIl_0, gIl_1, gIl_2, gIl_3, gIl_4, gIl_5, gIl_6, gIl_7, gIl_8, gIl_9, gIl_10, gIl_11, gIl_12, gIl_13, gIl_14, gIl_15, gIl_16, gIl_17, gIl_18, gIl_19, gIl_20, gIl_21, gIl_22, gIl_23, gIl_24, gIl_25, gIl_26, gIl_27, gIl_28, gIl_29, gIl_30, gIl_31, gIl_32, gIl_33, gIl_34, gIl_35, gIl_36, gIl_37, gIl_38, gIl_39, gIl_40, gIl_41, gIl_42, gIl_43, gIl_44, gIl_45, gIl_46, gIl_47, gIl_48, gIl_49, gIl_50, gIl_51, gIl_52, gIl_53, gIl_54, gIl_55, gIl_56, gIl_57, gIl_58, gIl_59, gIl_60, gIl_61, gIl_62, gIl_63, gIl_64, gIl_65, gIl_66, gIl_67, gIl_68, gIl_69, gIl_70, gIl_71, gIl_72, gIl_73, gIl_74, gIl_75, gIl_76, gIl_77, gIl_78, gIl_79, gIl_80, gIl_81, gIl_82, gIl_83, gIl_84, gIl_85, gIl_86, gIl_87, gIl_88, gIl_89, gIl_90, gIl_91, gIl_92, gIl_97, gIl_99, gIl_100, gIl_122, gIl_126, gIl_255, gIl_256, gIl_365, gIl_400, gIl_460, gIl_1900, gIl_3600, gIl_4096, gIl_32767, gIl_65536, gIl_86400, gI_add, gI_mul, gI_sub, ite_le, ite_lt, ite_eq, gI_le, gI_lt, gI_eq, gu_I1, gu_I2, gu_I3, gu_I4, gu_D1, gu_D2, gu_D3, gu_D4, fj_lt, fj_le, fj_gt, fj_ge, fj_eq, ju_lt, ju_le, ju_gt, ju_ge, ju_eq, if_true, if_false, s1, s3, e, e']
      exact ⟨S1, rfl, s2, s3⟩
  · rw [if_neg z] at s1 ⊢
    rw [bl_p z] at s3 ⊢
    have z' : ¬ f ≤ 0 := by omega
    simp (disch := (first | omega | assumption | exact fd_0_n | exact fd_53_n | exact fd_m53_n)) only [↓gg_30_0, ↓gs_30_0, ↓gg_30_1, ↓gs_30_1, ↓gg_30_3, ↓gs_30_3, ↓gg_30_11, ↓gs_30_11, ↓gg_30_12, ↓gs_30_12, ↓gg_30_16, ↓gs_30_16, ↓gg_30_17, ↓gs_30_17, ↓gg_30_18, ↓gs_30_18, ↓gg_30_19, ↓gs_30_19, ↓gg_30_20, ↓gs_30_20, ↓gg_30_21, ↓gs_30_21, ↓gg_30_22, ↓gs_30_22, ↓gg_30_23, ↓gs_30_23, ↓gg_30_24, ↓gs_30_24, ↓gr_30_2, ↓gr_30_4, ↓gr_30_5, ↓gr_30_6, ↓gr_30_7, ↓gr_30_8, ↓gr_30_9, ↓gr_30_10, ↓gr_30_13, ↓gr_30_14, ↓gr_30_15, ↓gc_30, ↓ga_31, ↓gt_31, ↓gl_31, ↓ga_32, ↓gt_32, ↓gl_32, ↓ga_33, ↓gt_33, ↓gl_33, ↓ga_34, ↓gt_34, ↓gl_34, ↓ga_35, ↓gt_35, ↓gl_35, ↓ga_36, ↓gt_36, ↓gl_36, ↓ga_37, ↓gt_37, ↓gl_37, ↓ga_38, ↓gt_38, ↓gl_38, ↓ga_39, ↓gt_39, ↓gl_39, ↓ga_40, ↓gt_40, ↓gl_40, ↓ga_41, ↓gt_41, ↓gl_41, ↓gk_let_eq, ↓gk_ca_some, ↓Option.bind_some, gIl_0, gIl_1, gIl_2, gIl_3, gIl_4, gIl_5, gIl_6, gIl_7, gIl_8, gIl_9, gIl_10, gIl_11, gIl_12, gIl_13, gIl_14, gIl_15, gIl_16, gIl_17, gIl_18, gIl_19, gIl_20, gIl_21, gIl_22, gIl_23, gIl_24, gIl_25, gIl_26, gIl_27, gIl_28, gIl_29, gIl_30, gIl_31, gIl_32, gIl_33, gIl_34, gIl_35, gIl_36, gIl_37, gIl_38, gIl_39, gIl_40, gIl_41, gIl_42, gIl_43, gIl_44, gIl_45, gIl_46, gIl_47, gIl_48, gIl_49, gIl_50, gIl_51, gIl_52, gIl_53, gIl_54, gIl_55, gIl_56, gIl_57, gIl_58, gIl_59, gIl_60, gIl_61, gIl_62, gIl_63, gIl_64, gIl_65, gIl_66, gIl_67, gIl_68, gIl_69, gIl_70, gIl_71, gIl_72, gIl_73, gIl_74, gIl_75, gIl_76, gIl_77, gIl_78, gIl_79, gIl_80, gIl_81, gIl_82, gIl_83, gIl_84, gIl_85, gIl_86, gIl_87, gIl_88, gIl_89, gIl_90, gIl_91, gIl_92, gIl_97, gIl_99, gIl_100, gIl_122, gIl_126, gIl_255, gIl_256, gIl_365, gIl_400, gIl_460, gIl_1900, gIl_3600, gIl_4096, gIl_32767, gIl_65536, gIl_86400, gI_add, gI_mul, gI_sub, ite_le, ite_lt, ite_eq, gI_le, gI_lt, gI_eq, gu_I1, gu_I2, gu_I3, gu_I4, gu_D1, gu_D2, gu_D3, gu_D4, fj_lt, fj_le, fj_gt, fj_ge, fj_eq, ju_lt, ju_le, ju_gt, ju_ge, ju_eq, if_true, if_false, s1, s3, z, z']
    exact ⟨S1, rfl, s2, s3⟩
end MW
