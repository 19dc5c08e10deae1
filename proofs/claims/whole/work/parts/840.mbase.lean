/-! THE PURE PART: the reference's small methods -/
/-- the reference's number of a single value -/
def md (x : gp_C) : UInt64 := if x.1 = 1 then x.2.2.1 else FP.i2d (gI x.2.1)
/-- a cell, a value of the reference -/
def mc (S : gv_S) (c : Nat) (x : gp_C) : Prop := S.1 35 c = gI x.1 ∧ S.2.1 36 c = md x ∧ S.1 37 c = gI x.2.2.2.length ∧ ∀ k, k < x.2.2.2.length → S.1 38 (256 * c + k) = gI (x.2.2.2.getD k 0)
def mv (S : gv_S) (v : Nat) (V : gp_V) : Prop := gp_okV V ∧ S.1 32 v = gI V.1 ∧ S.1 33 v = gI V.2.1 ∧ S.1 34 v = gI V.2.2.1 ∧ ∀ j, j < V.2.1 * V.2.2.1 → mc S (16 * v + j) (V.2.2.2 j)
/-- what the reference's functions may change -/
def mSt (a b : Nat) : Prop := (a = 30 ∧ 11 ≤ b) ∨ a = 39 ∨ a = 40 ∨ a = 41 ∨ (32 ≤ a ∧ a ≤ 34 ∧ b = 16) ∨ (35 ≤ a ∧ a ≤ 37 ∧ 256 ≤ b) ∨ (a = 38 ∧ 65536 ≤ b)
theorem mc.X {P : Nat → Nat → Prop} {S S' : gv_S} {c : Nat} {x : gp_C} (a : mc S c x) (q : mX P S S') (hx : x.2.2.2.length ≤ 255) (h : ∀ a b, P a b → ¬ (35 ≤ a ∧ a ≤ 37 ∧ b = c) ∧ ¬ (a = 38 ∧ 256 * c ≤ b ∧ b < 256 * c + 256)) : mc S' c x := by
  obtain ⟨a1, a2, a3, a4⟩ := a
  refine ⟨?_, ?_, ?_, fun k hk => ?_⟩
  · rw [q.i fun z => (h _ _ z).1 ⟨by decide, by decide, rfl⟩]; exact a1
  · rw [q.d fun z => (h _ _ z).1 ⟨by decide, by decide, rfl⟩]; exact a2
  · rw [q.i fun z => (h _ _ z).1 ⟨by decide, by decide, rfl⟩]; exact a3
  · rw [q.i fun z => (h _ _ z).2 ⟨rfl, by omega, by omega⟩]; exact a4 k hk
theorem mv.X {P : Nat → Nat → Prop} {S S' : gv_S} {v : Nat} {V : gp_V} (a : mv S v V) (q : mX P S S') (h : ∀ a b, P a b → ¬ (32 ≤ a ∧ a ≤ 34 ∧ b = v) ∧ ¬ (35 ≤ a ∧ a ≤ 37 ∧ 16 * v ≤ b ∧ b < 16 * v + 16) ∧ ¬ (a = 38 ∧ 4096 * v ≤ b ∧ b < 4096 * v + 4096)) : mv S' v V := by
  obtain ⟨a0, a1, a2, a3, a4⟩ := a
  refine ⟨a0, ?_, ?_, ?_, fun j hj => (a4 j hj).X q (a0.2.2.2.1 j hj).2.2.2.2.2.2.2.2.1 fun x y z => ?_⟩
  · rw [q.i fun z => (h _ _ z).1 ⟨by decide, by decide, rfl⟩]; exact a1
  · rw [q.i fun z => (h _ _ z).1 ⟨by decide, by decide, rfl⟩]; exact a2
  · rw [q.i fun z => (h _ _ z).1 ⟨by decide, by decide, rfl⟩]; exact a3
  · obtain ⟨h1, h2, h3⟩ := h x y z
    have := a0.2.2.1
    exact ⟨by omega, by omega⟩
theorem mv.st {S S' : gv_S} {v : Nat} {V : gp_V} (a : mv S v V) (q : mX mSt S S') (hv : v < 16) : mv S' v V := a.X q fun x y z => by
  unfold mSt at z
  omega
theorem md_0 : FP.i2d (gI 0) = 0 := by decide +kernel
theorem md_n {x : gp_C} (h : gp_okC x) : fd_n (md x) := by
  unfold md
  split
  · exact h.2.1.n
  · exact (fd_i2df _).n
section MB
variable {h : gk_H} {S : gv_S}
theorem m_fail (f e : Nat) (hb : S.1 30 11 = gI f) (hf : f ≤ 8) : f_M_fail (some 30) (gI e) (gv_ov h S) = some ((), gv_ov h (gv_uI S 30 11 (gI (bl f e)))) := by
  unfold f_M_fail f_M_fail_b16 bl
  simp (disch := (first | omega | assumption | exact fd_0_n | exact fd_53_n | exact fd_m53_n)) only [↓gg_30_0, ↓gs_30_0, ↓gg_30_1, ↓gs_30_1, ↓gg_30_3, ↓gs_30_3, ↓gg_30_11, ↓gs_30_11, ↓gg_30_12, ↓gs_30_12, ↓gg_30_16, ↓gs_30_16, ↓gg_30_17, ↓gs_30_17, ↓gg_30_18, ↓gs_30_18, ↓gg_30_19, ↓gs_30_19, ↓gg_30_20, ↓gs_30_20, ↓gg_30_21, ↓gs_30_21, ↓gg_30_22, ↓gs_30_22, ↓gg_30_23, ↓gs_30_23, ↓gg_30_24, ↓gs_30_24, ↓gr_30_2, ↓gr_30_4, ↓gr_30_5, ↓gr_30_6, ↓gr_30_7, ↓gr_30_8, ↓gr_30_9, ↓gr_30_10, ↓gr_30_13, ↓gr_30_14, ↓gr_30_15, ↓gc_30, ↓ga_31, ↓gt_31, ↓gl_31, ↓ga_32, ↓gt_32, ↓gl_32, ↓ga_33, ↓gt_33, ↓gl_33, ↓ga_34, ↓gt_34, ↓gl_34, ↓ga_35, ↓gt_35, ↓gl_35, ↓ga_36, ↓gt_36, ↓gl_36, ↓ga_37, ↓gt_37, ↓gl_37, ↓ga_38, ↓gt_38, ↓gl_38, ↓ga_39, ↓gt_39, ↓gl_39, ↓ga_40, ↓gt_40, ↓gl_40, ↓ga_41, ↓gt_41, ↓gl_41, ↓gk_let_eq, ↓gk_ca_some, ↓Option.bind_some, gIl_0, gIl_1, gIl_2, gIl_3, gIl_4, gIl_5, gIl_6, gIl_7, gIl_8, gIl_9, gIl_10, gIl_11, gIl_12, gIl_13, gIl_14, gIl_15, gIl_16, gIl_17, gIl_18, gIl_19, gIl_20, gIl_21, gIl_22, gIl_23, gIl_24, gIl_25, gIl_26, gIl_27, gIl_28, gIl_29, gIl_30, gIl_31, gIl_32, gIl_33, gIl_34, gIl_35, gIl_36, gIl_37, gIl_38, gIl_39, gIl_40, gIl_41, gIl_42, gIl_43, gIl_44, gIl_45, gIl_46, gIl_47, gIl_48, gIl_49, gIl_50, gIl_51, gIl_52, gIl_53, gIl_54, gIl_55, gIl_56, gIl_57, gIl_58, gIl_59, gIl_60, gIl_61, gIl_62, gIl_63, gIl_64, gIl_65, gIl_66, gIl_67, gIl_68, gIl_69, gIl_70, gIl_71, gIl_72, gIl_73, gIl_74, gIl_75, gIl_76, gIl_77, gIl_78, gIl_79, gIl_80, gIl_81, gIl_82, gIl_83, gIl_84, gIl_85, gIl_86, gIl_87, gIl_88, gIl_89, gIl_90, gIl_91, gIl_92, gIl_97, gIl_99, gIl_100, gIl_122, gIl_126, gIl_255, gIl_256, gIl_365, gIl_400, gIl_460, gIl_1900, gIl_3600, gIl_4096, gIl_32767, gIl_65536, gIl_86400, gI_add, gI_mul, gI_sub, ite_le, ite_lt, ite_eq, gI_le, gI_lt, gI_eq, gu_I1, gu_I2, gu_I3, gu_I4, gu_D1, gu_D2, gu_D3, gu_D4, fj_lt, fj_le, fj_gt, fj_ge, fj_eq, ju_lt, ju_le, ju_gt, ju_ge, ju_eq, if_true, if_false, hb]
  by_cases z : f = 0 <;> simp only [z, if_true, if_false]
theorem m_set (v k : Nat) (x : UInt64) (hv : v ≤ 16) (hx : fd_n x) : f_M_setSingle (some 30) (gI v) (gI k) x (gv_ov h S) = some ((), gv_ov h (gv_uI (gv_uD (gv_uI (gv_uI (gv_uI (gv_uI S 32 v (gI k)) 33 v (gI 1)) 34 v (gI 1)) 35 (16 * v) (gI k)) 36 (16 * v) (fd_c x)) 37 (16 * v) (gI 0))) := by
  unfold f_M_setSingle f_M_setSingle_b50
  simp (disch := (first | omega | assumption | exact fd_0_n | exact fd_53_n | exact fd_m53_n)) only [↓gg_30_0, ↓gs_30_0, ↓gg_30_1, ↓gs_30_1, ↓gg_30_3, ↓gs_30_3, ↓gg_30_11, ↓gs_30_11, ↓gg_30_12, ↓gs_30_12, ↓gg_30_16, ↓gs_30_16, ↓gg_30_17, ↓gs_30_17, ↓gg_30_18, ↓gs_30_18, ↓gg_30_19, ↓gs_30_19, ↓gg_30_20, ↓gs_30_20, ↓gg_30_21, ↓gs_30_21, ↓gg_30_22, ↓gs_30_22, ↓gg_30_23, ↓gs_30_23, ↓gg_30_24, ↓gs_30_24, ↓gr_30_2, ↓gr_30_4, ↓gr_30_5, ↓gr_30_6, ↓gr_30_7, ↓gr_30_8, ↓gr_30_9, ↓gr_30_10, ↓gr_30_13, ↓gr_30_14, ↓gr_30_15, ↓gc_30, ↓ga_31, ↓gt_31, ↓gl_31, ↓ga_32, ↓gt_32, ↓gl_32, ↓ga_33, ↓gt_33, ↓gl_33, ↓ga_34, ↓gt_34, ↓gl_34, ↓ga_35, ↓gt_35, ↓gl_35, ↓ga_36, ↓gt_36, ↓gl_36, ↓ga_37, ↓gt_37, ↓gl_37, ↓ga_38, ↓gt_38, ↓gl_38, ↓ga_39, ↓gt_39, ↓gl_39, ↓ga_40, ↓gt_40, ↓gl_40, ↓ga_41, ↓gt_41, ↓gl_41, ↓gk_let_eq, ↓gk_ca_some, ↓Option.bind_some, gIl_0, gIl_1, gIl_2, gIl_3, gIl_4, gIl_5, gIl_6, gIl_7, gIl_8, gIl_9, gIl_10, gIl_11, gIl_12, gIl_13, gIl_14, gIl_15, gIl_16, gIl_17, gIl_18, gIl_19, gIl_20, gIl_21, gIl_22, gIl_23, gIl_24, gIl_25, gIl_26, gIl_27, gIl_28, gIl_29, gIl_30, gIl_31, gIl_32, gIl_33, gIl_34, gIl_35, gIl_36, gIl_37, gIl_38, gIl_39, gIl_40, gIl_41, gIl_42, gIl_43, gIl_44, gIl_45, gIl_46, gIl_47, gIl_48, gIl_49, gIl_50, gIl_51, gIl_52, gIl_53, gIl_54, gIl_55, gIl_56, gIl_57, gIl_58, gIl_59, gIl_60, gIl_61, gIl_62, gIl_63, gIl_64, gIl_65, gIl_66, gIl_67, gIl_68, gIl_69, gIl_70, gIl_71, gIl_72, gIl_73, gIl_74, gIl_75, gIl_76, gIl_77, gIl_78, gIl_79, gIl_80, gIl_81, gIl_82, gIl_83, gIl_84, gIl_85, gIl_86, gIl_87, gIl_88, gIl_89, gIl_90, gIl_91, gIl_92, gIl_97, gIl_99, gIl_100, gIl_122, gIl_126, gIl_255, gIl_256, gIl_365, gIl_400, gIl_460, gIl_1900, gIl_3600, gIl_4096, gIl_32767, gIl_65536, gIl_86400, gI_add, gI_mul, gI_sub, ite_le, ite_lt, ite_eq, gI_le, gI_lt, gI_eq, gu_I1, gu_I2, gu_I3, gu_I4, gu_D1, gu_D2, gu_D3, gu_D4, fj_lt, fj_le, fj_gt, fj_ge, fj_eq, ju_lt, ju_le, ju_gt, ju_ge, ju_eq, if_true, if_false, fd_k0]
  unfold fd_c
  by_cases z : fd_k x = 0 <;> simp only [z, if_true, if_false]
theorem m_single (v r c f : Nat) (hv : v ≤ 16) (hr : S.1 33 v = gI r) (hc : S.1 34 v = gI c) (hrc : r * c ≤ 16) (hb : S.1 30 11 = gI f) (hf : f ≤ 8) : f_M_single (some 30) (gI v) (gv_ov h S) = some (gI (16 * v), gv_ov h (gv_uI S 30 11 (gI (if r * c = 1 then f else bl f 3)))) := by
  unfold f_M_single f_M_single_b22
  simp (disch := (first | omega | assumption | exact fd_0_n | exact fd_53_n | exact fd_m53_n)) only [↓gg_30_0, ↓gs_30_0, ↓gg_30_1, ↓gs_30_1, ↓gg_30_3, ↓gs_30_3, ↓gg_30_11, ↓gs_30_11, ↓gg_30_12, ↓gs_30_12, ↓gg_30_16, ↓gs_30_16, ↓gg_30_17, ↓gs_30_17, ↓gg_30_18, ↓gs_30_18, ↓gg_30_19, ↓gs_30_19, ↓gg_30_20, ↓gs_30_20, ↓gg_30_21, ↓gs_30_21, ↓gg_30_22, ↓gs_30_22, ↓gg_30_23, ↓gs_30_23, ↓gg_30_24, ↓gs_30_24, ↓gr_30_2, ↓gr_30_4, ↓gr_30_5, ↓gr_30_6, ↓gr_30_7, ↓gr_30_8, ↓gr_30_9, ↓gr_30_10, ↓gr_30_13, ↓gr_30_14, ↓gr_30_15, ↓gc_30, ↓ga_31, ↓gt_31, ↓gl_31, ↓ga_32, ↓gt_32, ↓gl_32, ↓ga_33, ↓gt_33, ↓gl_33, ↓ga_34, ↓gt_34, ↓gl_34, ↓ga_35, ↓gt_35, ↓gl_35, ↓ga_36, ↓gt_36, ↓gl_36, ↓ga_37, ↓gt_37, ↓gl_37, ↓ga_38, ↓gt_38, ↓gl_38, ↓ga_39, ↓gt_39, ↓gl_39, ↓ga_40, ↓gt_40, ↓gl_40, ↓ga_41, ↓gt_41, ↓gl_41, ↓gk_let_eq, ↓gk_ca_some, ↓Option.bind_some, gIl_0, gIl_1, gIl_2, gIl_3, gIl_4, gIl_5, gIl_6, gIl_7, gIl_8, gIl_9, gIl_10, gIl_11, gIl_12, gIl_13, gIl_14, gIl_15, gIl_16, gIl_17, gIl_18, gIl_19, gIl_20, gIl_21, gIl_22, gIl_23, gIl_24, gIl_25, gIl_26, gIl_27, gIl_28, gIl_29, gIl_30, gIl_31, gIl_32, gIl_33, gIl_34, gIl_35, gIl_36, gIl_37, gIl_38, gIl_39, gIl_40, gIl_41, gIl_42, gIl_43, gIl_44, gIl_45, gIl_46, gIl_47, gIl_48, gIl_49, gIl_50, gIl_51, gIl_52, gIl_53, gIl_54, gIl_55, gIl_56, gIl_57, gIl_58, gIl_59, gIl_60, gIl_61, gIl_62, gIl_63, gIl_64, gIl_65, gIl_66, gIl_67, gIl_68, gIl_69, gIl_70, gIl_71, gIl_72, gIl_73, gIl_74, gIl_75, gIl_76, gIl_77, gIl_78, gIl_79, gIl_80, gIl_81, gIl_82, gIl_83, gIl_84, gIl_85, gIl_86, gIl_87, gIl_88, gIl_89, gIl_90, gIl_91, gIl_92, gIl_97, gIl_99, gIl_100, gIl_122, gIl_126, gIl_255, gIl_256, gIl_365, gIl_400, gIl_460, gIl_1900, gIl_3600, gIl_4096, gIl_32767, gIl_65536, gIl_86400, gI_add, gI_mul, gI_sub, ite_le, ite_lt, ite_eq, gI_le, gI_lt, gI_eq, gu_I1, gu_I2, gu_I3, gu_I4, gu_D1, gu_D2, gu_D3, gu_D4, fj_lt, fj_le, fj_gt, fj_ge, fj_eq, ju_lt, ju_le, ju_gt, ju_ge, ju_eq, if_true, if_false, hr, hc, m_fail f 3 hb hf]
  by_cases z : r * c = 1
  · simp only [z, if_true, ← hb, gu_s]
  · simp only [z, if_false]
theorem m_ccloop {c t : Nat} {x : gp_C} (hx : gp_okC x) (hc : c < 272) (ht : t < 272) (hct : c ≠ t) : ∀ (m k fu : Nat) (S : gv_S), k + m = x.2.2.2.length → m < fu → S.1 37 c = gI x.2.2.2.length → (∀ j, j < x.2.2.2.length → S.1 38 (256 * c + j) = gI (x.2.2.2.getD j 0)) → (∀ j, j < k → S.1 38 (256 * t + j) = gI (x.2.2.2.getD j 0)) → ∃ S', f_M_copyCell_b38 fu (some 30) (gI c) (gI t) (gI k) (gv_ov h S) = some ((), gv_ov h S') ∧ mX (fun a b => a = 38 ∧ 256 * t ≤ b ∧ b < 256 * t + 256) S S' ∧ ∀ j, j < x.2.2.2.length → S'.1 38 (256 * t + j) = gI (x.2.2.2.getD j 0) := by
  intro m
  induction m with
  | zero =>
    intro k fu S hk hf h1 h2 h3
    obtain ⟨fu, rfl⟩ : ∃ f, fu = f + 1 := ⟨fu - 1, by omega⟩
    rw [f_M_copyCell_b38]
    dsimp only
    have hl := hx.2.2.2.2.2.2.2.2.1
    simp (disch := (first | omega | assumption | exact fd_0_n | exact fd_53_n | exact fd_m53_n)) only [↓gg_30_0, ↓gs_30_0, ↓gg_30_1, ↓gs_30_1, ↓gg_30_3, ↓gs_30_3, ↓gg_30_11, ↓gs_30_11, ↓gg_30_12, ↓gs_30_12, ↓gg_30_16, ↓gs_30_16, ↓gg_30_17, ↓gs_30_17, ↓gg_30_18, ↓gs_30_18, ↓gg_30_19, ↓gs_30_19, ↓gg_30_20, ↓gs_30_20, ↓gg_30_21, ↓gs_30_21, ↓gg_30_22, ↓gs_30_22, ↓gg_30_23, ↓gs_30_23, ↓gg_30_24, ↓gs_30_24, ↓gr_30_2, ↓gr_30_4, ↓gr_30_5, ↓gr_30_6, ↓gr_30_7, ↓gr_30_8, ↓gr_30_9, ↓gr_30_10, ↓gr_30_13, ↓gr_30_14, ↓gr_30_15, ↓gc_30, ↓ga_31, ↓gt_31, ↓gl_31, ↓ga_32, ↓gt_32, ↓gl_32, ↓ga_33, ↓gt_33, ↓gl_33, ↓ga_34, ↓gt_34, ↓gl_34, ↓ga_35, ↓gt_35, ↓gl_35, ↓ga_36, ↓gt_36, ↓gl_36, ↓ga_37, ↓gt_37, ↓gl_37, ↓ga_38, ↓gt_38, ↓gl_38, ↓ga_39, ↓gt_39, ↓gl_39, ↓ga_40, ↓gt_40, ↓gl_40, ↓ga_41, ↓gt_41, ↓gl_41, ↓gk_let_eq, ↓gk_ca_some, ↓Option.bind_some, gIl_0, gIl_1, gIl_2, gIl_3, gIl_4, gIl_5, gIl_6, gIl_7, gIl_8, gIl_9, gIl_10, gIl_11, gIl_12, gIl_13, gIl_14, gIl_15, gIl_16, gIl_17, gIl_18, gIl_19, gIl_20, gIl_21, gIl_22, gIl_23, gIl_24, gIl_25, gIl_26, gIl_27, gIl_28, gIl_29, gIl_30, gIl_31, gIl_32, gIl_33, gIl_34, gIl_35, gIl_36, gIl_37, gIl_38, gIl_39, gIl_40, gIl_41, gIl_42, gIl_43, gIl_44, gIl_45, gIl_46, gIl_47, gIl_48, gIl_49, gIl_50, gIl_51, gIl_52, gIl_53, gIl_54, gIl_55, gIl_56, gIl_57, gIl_58, gIl_59, gIl_60, gIl_61, gIl_62, gIl_63, gIl_64, gIl_65, gIl_66, gIl_67, gIl_68, gIl_69, gIl_70, gIl_71, gIl_72, gIl_73, gIl_74, gIl_75, gIl_76, gIl_77, gIl_78, gIl_79, gIl_80, gIl_81, gIl_82, gIl_83, gIl_84, gIl_85, gIl_86, gIl_87, gIl_88, gIl_89, gIl_90, gIl_91, gIl_92, gIl_97, gIl_99, gIl_100, gIl_122, gIl_126, gIl_255, gIl_256, gIl_365, gIl_400, gIl_460, gIl_1900, gIl_3600, gIl_4096, gIl_32767, gIl_65536, gIl_86400, gI_add, gI_mul, gI_sub, ite_le, ite_lt, ite_eq, gI_le, gI_lt, gI_eq, gu_I1, gu_I2, gu_I3, gu_I4, gu_D1, gu_D2, gu_D3, gu_D4, fj_lt, fj_le, fj_gt, fj_ge, fj_eq, ju_lt, ju_le, ju_gt, ju_ge, ju_eq, if_true, if_false, h1]
    rw [if_pos (by omega)]
    exact ⟨S, rfl, mX.refl _ _, fun j hj => h3 j (by omega)⟩
  | succ m ih =>
    intro k fu S hk hf h1 h2 h3
    obtain ⟨fu, rfl⟩ : ∃ f, fu = f + 1 := ⟨fu - 1, by omega⟩
    rw [f_M_copyCell_b38]
    dsimp only
    have hl := hx.2.2.2.2.2.2.2.2.1
    have hch : x.2.2.2.getD k 0 < 128 := by
      have := ok_t128 hx (x.2.2.2.getD k 0) (by
        rw [List.getD_eq_getElem?_getD, List.getElem?_eq_getElem (by omega)]
        exact List.getElem_mem _)
      exact this
    simp (disch := (first | omega | assumption | exact fd_0_n | exact fd_53_n | exact fd_m53_n)) only [↓gg_30_0, ↓gs_30_0, ↓gg_30_1, ↓gs_30_1, ↓gg_30_3, ↓gs_30_3, ↓gg_30_11, ↓gs_30_11, ↓gg_30_12, ↓gs_30_12, ↓gg_30_16, ↓gs_30_16, ↓gg_30_17, ↓gs_30_17, ↓gg_30_18, ↓gs_30_18, ↓gg_30_19, ↓gs_30_19, ↓gg_30_20, ↓gs_30_20, ↓gg_30_21, ↓gs_30_21, ↓gg_30_22, ↓gs_30_22, ↓gg_30_23, ↓gs_30_23, ↓gg_30_24, ↓gs_30_24, ↓gr_30_2, ↓gr_30_4, ↓gr_30_5, ↓gr_30_6, ↓gr_30_7, ↓gr_30_8, ↓gr_30_9, ↓gr_30_10, ↓gr_30_13, ↓gr_30_14, ↓gr_30_15, ↓gc_30, ↓ga_31, ↓gt_31, ↓gl_31, ↓ga_32, ↓gt_32, ↓gl_32, ↓ga_33, ↓gt_33, ↓gl_33, ↓ga_34, ↓gt_34, ↓gl_34, ↓ga_35, ↓gt_35, ↓gl_35, ↓ga_36, ↓gt_36, ↓gl_36, ↓ga_37, ↓gt_37, ↓gl_37, ↓ga_38, ↓gt_38, ↓gl_38, ↓ga_39, ↓gt_39, ↓gl_39, ↓ga_40, ↓gt_40, ↓gl_40, ↓ga_41, ↓gt_41, ↓gl_41, ↓gk_let_eq, ↓gk_ca_some, ↓Option.bind_some, gIl_0, gIl_1, gIl_2, gIl_3, gIl_4, gIl_5, gIl_6, gIl_7, gIl_8, gIl_9, gIl_10, gIl_11, gIl_12, gIl_13, gIl_14, gIl_15, gIl_16, gIl_17, gIl_18, gIl_19, gIl_20, gIl_21, gIl_22, gIl_23, gIl_24, gIl_25, gIl_26, gIl_27, gIl_28, gIl_29, gIl_30, gIl_31, gIl_32, gIl_33, gIl_34, gIl_35, gIl_36, gIl_37, gIl_38, gIl_39, gIl_40, gIl_41, gIl_42, gIl_43, gIl_44, gIl_45, gIl_46, gIl_47, gIl_48, gIl_49, gIl_50, gIl_51, gIl_52, gIl_53, gIl_54, gIl_55, gIl_56, gIl_57, gIl_58, gIl_59, gIl_60, gIl_61, gIl_62, gIl_63, gIl_64, gIl_65, gIl_66, gIl_67, gIl_68, gIl_69, gIl_70, gIl_71, gIl_72, gIl_73, gIl_74, gIl_75, gIl_76, gIl_77, gIl_78, gIl_79, gIl_80, gIl_81, gIl_82, gIl_83, gIl_84, gIl_85, gIl_86, gIl_87, gIl_88, gIl_89, gIl_90, gIl_91, gIl_92, gIl_97, gIl_99, gIl_100, gIl_122, gIl_126, gIl_255, gIl_256, gIl_365, gIl_400, gIl_460, gIl_1900, gIl_3600, gIl_4096, gIl_32767, gIl_65536, gIl_86400, gI_add, gI_mul, gI_sub, ite_le, ite_lt, ite_eq, gI_le, gI_lt, gI_eq, gu_I1, gu_I2, gu_I3, gu_I4, gu_D1, gu_D2, gu_D3, gu_D4, fj_lt, fj_le, fj_gt, fj_ge, fj_eq, ju_lt, ju_le, ju_gt, ju_ge, ju_eq, if_true, if_false, h1]
    rw [if_neg (by omega), h2 k (by omega), gI_bb hch]
    obtain ⟨S', e1, e2, e3⟩ := ih (k + 1) fu (gv_uI S 38 (256 * t + k) (gI (x.2.2.2.getD k 0))) (by omega) (by omega) h1 (fun j hj => by rw [gu_I1 _ _ _ _ _ _ (by omega)]; exact h2 j hj) (fun j hj => by
      by_cases z : j = k
      · rw [z, gu_I2]
      · rw [gu_I1 _ _ _ _ _ _ (by omega)]; exact h3 j (by omega))
    exact ⟨S', e1, (mX.I _ ⟨rfl, by omega, by omega⟩).trans e2, e3⟩
/-- what is written when a cell is written -/
def mCl (t a b : Nat) : Prop := (35 ≤ a ∧ a ≤ 37 ∧ b = t) ∨ (a = 38 ∧ 256 * t ≤ b ∧ b < 256 * t + 256)
theorem m_copyCell {c t : Nat} {x : gp_C} (hx : gp_okC x) (hm : mc S c x) (hc : c < 272) (ht : t < 272) (hct : c ≠ t) : ∃ S', f_M_copyCell (some 30) (gI c) (gI t) (gv_ov h S) = some ((), gv_ov h S') ∧ mX (mCl t) S S' ∧ mc S' t x := by
  obtain ⟨a1, a2, a3, a4⟩ := hm
  have hl := hx.2.2.2.2.2.2.2.2.1
  unfold f_M_copyCell
  simp (disch := (first | omega | assumption | exact fd_0_n | exact fd_53_n | exact fd_m53_n)) only [↓gg_30_0, ↓gs_30_0, ↓gg_30_1, ↓gs_30_1, ↓gg_30_3, ↓gs_30_3, ↓gg_30_11, ↓gs_30_11, ↓gg_30_12, ↓gs_30_12, ↓gg_30_16, ↓gs_30_16, ↓gg_30_17, ↓gs_30_17, ↓gg_30_18, ↓gs_30_18, ↓gg_30_19, ↓gs_30_19, ↓gg_30_20, ↓gs_30_20, ↓gg_30_21, ↓gs_30_21, ↓gg_30_22, ↓gs_30_22, ↓gg_30_23, ↓gs_30_23, ↓gg_30_24, ↓gs_30_24, ↓gr_30_2, ↓gr_30_4, ↓gr_30_5, ↓gr_30_6, ↓gr_30_7, ↓gr_30_8, ↓gr_30_9, ↓gr_30_10, ↓gr_30_13, ↓gr_30_14, ↓gr_30_15, ↓gc_30, ↓ga_31, ↓gt_31, ↓gl_31, ↓ga_32, ↓gt_32, ↓gl_32, ↓ga_33, ↓gt_33, ↓gl_33, ↓ga_34, ↓gt_34, ↓gl_34, ↓ga_35, ↓gt_35, ↓gl_35, ↓ga_36, ↓gt_36, ↓gl_36, ↓ga_37, ↓gt_37, ↓gl_37, ↓ga_38, ↓gt_38, ↓gl_38, ↓ga_39, ↓gt_39, ↓gl_39, ↓ga_40, ↓gt_40, ↓gl_40, ↓ga_41, ↓gt_41, ↓gl_41, ↓gk_let_eq, ↓gk_ca_some, ↓Option.bind_some, gIl_0, gIl_1, gIl_2, gIl_3, gIl_4, gIl_5, gIl_6, gIl_7, gIl_8, gIl_9, gIl_10, gIl_11, gIl_12, gIl_13, gIl_14, gIl_15, gIl_16, gIl_17, gIl_18, gIl_19, gIl_20, gIl_21, gIl_22, gIl_23, gIl_24, gIl_25, gIl_26, gIl_27, gIl_28, gIl_29, gIl_30, gIl_31, gIl_32, gIl_33, gIl_34, gIl_35, gIl_36, gIl_37, gIl_38, gIl_39, gIl_40, gIl_41, gIl_42, gIl_43, gIl_44, gIl_45, gIl_46, gIl_47, gIl_48, gIl_49, gIl_50, gIl_51, gIl_52, gIl_53, gIl_54, gIl_55, gIl_56, gIl_57, gIl_58, gIl_59, gIl_60, gIl_61, gIl_62, gIl_63, gIl_64, gIl_65, gIl_66, gIl_67, gIl_68, gIl_69, gIl_70, gIl_71, gIl_72, gIl_73, gIl_74, gIl_75, gIl_76, gIl_77, gIl_78, gIl_79, gIl_80, gIl_81, gIl_82, gIl_83, gIl_84, gIl_85, gIl_86, gIl_87, gIl_88, gIl_89, gIl_90, gIl_91, gIl_92, gIl_97, gIl_99, gIl_100, gIl_122, gIl_126, gIl_255, gIl_256, gIl_365, gIl_400, gIl_460, gIl_1900, gIl_3600, gIl_4096, gIl_32767, gIl_65536, gIl_86400, gI_add, gI_mul, gI_sub, ite_le, ite_lt, ite_eq, gI_le, gI_lt, gI_eq, gu_I1, gu_I2, gu_I3, gu_I4, gu_D1, gu_D2, gu_D3, gu_D4, fj_lt, fj_le, fj_gt, fj_ge, fj_eq, ju_lt, ju_le, ju_gt, ju_ge, ju_eq, if_true, if_false, a1, a2, a3]
  obtain ⟨S', e1, e2, e3⟩ := m_ccloop (h := h) hx hc ht hct x.2.2.2.length 0 gk_F (gv_uI (gv_uD (gv_uI S 35 t (gI x.1)) 36 t (md x)) 37 t (gI x.2.2.2.length)) (by omega) (by unfold gk_F; omega) (by rw [gu_I1 _ _ _ _ _ _ (by omega)]; exact a3) (fun j hj => a4 j hj) (fun j hj => absurd hj (Nat.not_lt_zero _))
  refine ⟨S', e1, ?_, ?_, ?_, ?_, e3⟩
  · refine mX.trans ?_ (e2.le fun x y z => Or.inr z)
    refine ((mX.I _ (Or.inl ⟨by decide, by decide, rfl⟩)).trans (mX.D _ (Or.inl ⟨by decide, by decide, rfl⟩))).trans (mX.I _ (Or.inl ⟨by decide, by decide, rfl⟩))
  · rw [e2.i (by omega)]; exact if_pos ⟨rfl, rfl⟩
  · rw [e2.d (by omega)]; exact if_pos ⟨rfl, rfl⟩
  · rw [e2.i (by omega)]; exact if_pos ⟨rfl, rfl⟩
end MB
