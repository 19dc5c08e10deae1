/-! THE PURE PART: the reference's rows of numbers; truths -/
/-- the row of the reference -/
def gM (S : gv_S) (row : List UInt64) : gv_S := (fun a b => if a = 30 ∧ b = 12 then gI row.length else S.1 a b, fun a b => if a = 39 ∧ b < row.length then row.getD b 0 else S.2.1 a b, S.2.2)
def mRw (a b : Nat) : Prop := (a = 30 ∧ b = 12) ∨ a = 39
theorem gM_X (S : gv_S) (row : List UInt64) : mX mRw S (gM S row) := by
  refine ⟨fun a b h => ⟨if_neg fun z => h (Or.inl z), if_neg fun z => h (Or.inr z.1)⟩, rfl⟩
theorem gM_12 (S : gv_S) (row : List UInt64) : (gM S row).1 30 12 = gI row.length := rfl
theorem gM_i (S : gv_S) (row : List UInt64) (a b : Nat) (h : ¬ (a = 30 ∧ b = 12)) : (gM S row).1 a b = S.1 a b := if_neg h
theorem gM_d (S : gv_S) (row : List UInt64) (a b : Nat) (h : a ≠ 39) : (gM S row).2.1 a b = S.2.1 a b := if_neg fun z => h z.1
theorem gM_row (S : gv_S) (row : List UInt64) (k : Nat) (hk : k < row.length) : (gM S row).2.1 39 k = row.getD k 0 := if_pos ⟨rfl, hk⟩
theorem gM_0 (S : gv_S) : gv_uI S 30 12 (gI 0) = gM S [] := by
  unfold gv_uI gM
  refine Prod.ext rfl (Prod.ext (funext fun a => funext fun b => ?_) rfl)
  show S.2.1 a b = if a = 39 ∧ b < 0 then _ else S.2.1 a b
  rw [if_neg (by omega)]
theorem gM_push (S : gv_S) (row : List UInt64) (x : UInt64) : gv_uI (gv_uD (gM S row) 39 row.length x) 30 12 (gI (row.length + 1)) = gM S (row ++ [x]) := by
  unfold gv_uI gv_uD gM
  have hl : (row ++ [x]).length = row.length + 1 := by simp
  refine Prod.ext (funext fun a => funext fun b => ?_) (Prod.ext (funext fun a => funext fun b => ?_) rfl)
  · show (if a = 30 ∧ b = 12 then gI (row.length + 1) else if a = 30 ∧ b = 12 then gI row.length else S.1 a b) = if a = 30 ∧ b = 12 then gI (row ++ [x]).length else S.1 a b
    rw [hl]
    by_cases z : a = 30 ∧ b = 12
    · rw [if_pos z, if_pos z]
    · rw [if_neg z, if_neg z, if_neg z]
  · show (if a = 39 ∧ b = row.length then x else if a = 39 ∧ b < row.length then row.getD b 0 else S.2.1 a b) = if a = 39 ∧ b < (row ++ [x]).length then (row ++ [x]).getD b 0 else S.2.1 a b
    rw [hl]
    by_cases z : a = 39 ∧ b = row.length
    · rw [if_pos z, if_pos (by omega), z.2]
      simp [List.getD_eq_getElem?_getD]
    · rw [if_neg z]
      by_cases w : a = 39 ∧ b < row.length
      · rw [if_pos w, if_pos (by omega)]
        simp only [List.getD_eq_getElem?_getD]
        rw [List.getElem?_append_left w.2]
      · rw [if_neg w, if_neg (by omega)]
theorem gM_set (S : gv_S) (row : List UInt64) (k : Nat) (x : UInt64) (hk : k < row.length) : gv_uD (gM S row) 39 k x = gM S (row.set k x) := by
  unfold gv_uD gM
  have hl : (row.set k x).length = row.length := List.length_set
  refine Prod.ext (funext fun a => funext fun b => ?_) (Prod.ext (funext fun a => funext fun b => ?_) rfl)
  · show (if a = 30 ∧ b = 12 then gI row.length else S.1 a b) = if a = 30 ∧ b = 12 then gI (row.set k x).length else S.1 a b
    rw [hl]
  · show (if a = 39 ∧ b = k then x else if a = 39 ∧ b < row.length then row.getD b 0 else S.2.1 a b) = if a = 39 ∧ b < (row.set k x).length then (row.set k x).getD b 0 else S.2.1 a b
    rw [hl]
    by_cases z : a = 39 ∧ b = k
    · rw [if_pos z, if_pos (by omega), z.2]
      simp [List.getD_eq_getElem?_getD, List.getElem?_set, hk]
    · rw [if_neg z]
      by_cases w : a = 39 ∧ b < row.length
      · rw [if_pos w, if_pos w]
        have : k ≠ b := fun q => z ⟨w.1, q.symm⟩
        simp [List.getD_eq_getElem?_getD, List.getElem?_set, this]
      · rw [if_neg w, if_neg w]
theorem gM_uI (S : gv_S) (row : List UInt64) (i k : Nat) (v : Int32) (h : ¬ (i = 30 ∧ k = 12)) : gv_uI (gM S row) i k v = gM (gv_uI S i k v) row := by
  unfold gv_uI gM
  refine Prod.ext (funext fun a => funext fun b => ?_) rfl
  show (if a = i ∧ b = k then v else if a = 30 ∧ b = 12 then gI row.length else S.1 a b) = if a = 30 ∧ b = 12 then gI row.length else if a = i ∧ b = k then v else S.1 a b
  by_cases z : a = i ∧ b = k
  · rw [if_pos z, if_neg (by omega), if_pos z]
  · rw [if_neg z, if_neg z]
/-- a state whose row is told -/
def mR (S : gv_S) (row : List UInt64) : Prop := gM S row = S
theorem gM_gM (S : gv_S) (row row' : List UInt64) (h : row.length ≤ row'.length) : gM (gM S row) row' = gM S row' := by
  unfold gM
  refine Prod.ext (funext fun a => funext fun b => ?_) (Prod.ext (funext fun a => funext fun b => ?_) rfl)
  · show (if a = 30 ∧ b = 12 then gI row'.length else if a = 30 ∧ b = 12 then gI row.length else S.1 a b) = if a = 30 ∧ b = 12 then gI row'.length else S.1 a b
    by_cases z : a = 30 ∧ b = 12
    · rw [if_pos z, if_pos z]
    · rw [if_neg z, if_neg z, if_neg z]
  · show (if a = 39 ∧ b < row'.length then row'.getD b 0 else if a = 39 ∧ b < row.length then row.getD b 0 else S.2.1 a b) = if a = 39 ∧ b < row'.length then row'.getD b 0 else S.2.1 a b
    by_cases z : a = 39 ∧ b < row'.length
    · rw [if_pos z, if_pos z]
    · rw [if_neg z, if_neg z, if_neg (by omega)]
theorem gM_mR (S : gv_S) (row : List UInt64) : mR (gM S row) row := gM_gM S row row (Nat.le_refl _)
theorem mR.keep {P : Nat → Nat → Prop} {S S' : gv_S} {row : List UInt64} (a : mR S row) (q : mX P S S') (h : ∀ x y, P x y → ¬ (x = 30 ∧ y = 12) ∧ x ≠ 39) : mR S' row := by
  have a1 : (gM S row).1 30 12 = S.1 30 12 := congrArg (fun T : gv_S => T.1 30 12) a
  have a2 : ∀ b, (gM S row).2.1 39 b = S.2.1 39 b := fun b => congrArg (fun T : gv_S => T.2.1 39 b) a
  unfold mR gM
  refine Prod.ext (funext fun x => funext fun y => ?_) (Prod.ext (funext fun x => funext fun y => ?_) rfl)
  · show (if x = 30 ∧ y = 12 then gI row.length else S'.1 x y) = S'.1 x y
    by_cases z : x = 30 ∧ y = 12
    · rw [if_pos z, z.1, z.2, q.i (fun w => (h _ _ w).1 ⟨rfl, rfl⟩), ← a1]
      rfl
    · rw [if_neg z]
  · show (if x = 39 ∧ y < row.length then row.getD y 0 else S'.2.1 x y) = S'.2.1 x y
    by_cases z : x = 39 ∧ y < row.length
    · rw [if_pos z, z.1, q.d (fun w => (h _ _ w).2 rfl), ← a2, gM_row _ _ _ z.2]
    · rw [if_neg z]
theorem mR.q {S S' : gv_S} {row : List UInt64} (a : mR S row) (q : mX mQ S S') : mR S' row := a.keep q fun x y z => by
  unfold mQ at z
  omega
def mQR (a b : Nat) : Prop := mQ a b ∨ mRw a b
theorem mQR_st {a b : Nat} (h : mQR a b) : mSt a b := by
  unfold mQR mQ mRw at h
  unfold mSt
  omega
theorem mQR_lo {a b : Nat} (h : mQR a b) : a < 32 ∨ 38 < a := by
  unfold mQR mQ mRw at h
  omega
section MRO
variable {h : gk_H} {S : gv_S} {f : Nat}
theorem m_gather {row : List UInt64} (x : UInt64) (hr : mR S row) (hl : row.length < 128) : f_M_gather (some 30) x (gv_ov h S) = some ((), gv_ov h (gM S (row ++ [x]))) := by
  have h12 : S.1 30 12 = gI row.length := by rw [← hr]; rfl
  unfold f_M_gather
  simp (disch := (first | omega | assumption | exact fd_0_n | exact fd_53_n | exact fd_m53_n)) only [↓gg_30_0, ↓gs_30_0, ↓gg_30_1, ↓gs_30_1, ↓gg_30_3, ↓gs_30_3, ↓gg_30_11, ↓gs_30_11, ↓gg_30_12, ↓gs_30_12, ↓gg_30_16, ↓gs_30_16, ↓gg_30_17, ↓gs_30_17, ↓gg_30_18, ↓gs_30_18, ↓gg_30_19, ↓gs_30_19, ↓gg_30_20, ↓gs_30_20, ↓gg_30_21, ↓gs_30_21, ↓gg_30_22, ↓gs_30_22, ↓gg_30_23, ↓gs_30_23, ↓gg_30_24, ↓gs_30_24, ↓gr_30_2, ↓gr_30_4, ↓gr_30_5, ↓gr_30_6, ↓gr_30_7, ↓gr_30_8, ↓gr_30_9, ↓gr_30_10, ↓gr_30_13, ↓gr_30_14, ↓gr_30_15, ↓gc_30, ↓ga_31, ↓gt_31, ↓gl_31, ↓ga_32, ↓gt_32, ↓gl_32, ↓ga_33, ↓gt_33, ↓gl_33, ↓ga_34, ↓gt_34, ↓gl_34, ↓ga_35, ↓gt_35, ↓gl_35, ↓ga_36, ↓gt_36, ↓gl_36, ↓ga_37, ↓gt_37, ↓gl_37, ↓ga_38, ↓gt_38, ↓gl_38, ↓ga_39, ↓gt_39, ↓gl_39, ↓ga_40, ↓gt_40, ↓gl_40, ↓ga_41, ↓gt_41, ↓gl_41, ↓gk_let_eq, ↓gk_ca_some, ↓Option.bind_some, gIl_0, gIl_1, gIl_2, gIl_3, gIl_4, gIl_5, gIl_6, gIl_7, gIl_8, gIl_9, gIl_10, gIl_11, gIl_12, gIl_13, gIl_14, gIl_15, gIl_16, gIl_17, gIl_18, gIl_19, gIl_20, gIl_21, gIl_22, gIl_23, gIl_24, gIl_25, gIl_26, gIl_27, gIl_28, gIl_29, gIl_30, gIl_31, gIl_32, gIl_33, gIl_34, gIl_35, gIl_36, gIl_37, gIl_38, gIl_39, gIl_40, gIl_41, gIl_42, gIl_43, gIl_44, gIl_45, gIl_46, gIl_47, gIl_48, gIl_49, gIl_50, gIl_51, gIl_52, gIl_53, gIl_54, gIl_55, gIl_56, gIl_57, gIl_58, gIl_59, gIl_60, gIl_61, gIl_62, gIl_63, gIl_64, gIl_65, gIl_66, gIl_67, gIl_68, gIl_69, gIl_70, gIl_71, gIl_72, gIl_73, gIl_74, gIl_75, gIl_76, gIl_77, gIl_78, gIl_79, gIl_80, gIl_81, gIl_82, gIl_83, gIl_84, gIl_85, gIl_86, gIl_87, gIl_88, gIl_89, gIl_90, gIl_91, gIl_92, gIl_97, gIl_99, gIl_100, gIl_122, gIl_126, gIl_255, gIl_256, gIl_365, gIl_400, gIl_460, gIl_1900, gIl_3600, gIl_4096, gIl_32767, gIl_65536, gIl_86400, gI_add, gI_mul, gI_sub, ite_le, ite_lt, ite_eq, gI_le, gI_lt, gI_eq, gu_I1, gu_I2, gu_I3, gu_I4, gu_D1, gu_D2, gu_D3, gu_D4, fj_lt, fj_le, fj_gt, fj_ge, fj_eq, ju_lt, ju_le, ju_gt, ju_ge, ju_eq, if_true, if_false, h12]
  rw [← gM_push, hr]
theorem m_rowloop {v : Nat} {V : gp_V} (hv : v < 16) (row0 : List UInt64) (hl0 : row0.length + 16 ≤ 128) : ∀ (m k fu : Nat) (S : gv_S) (f : Nat), mv S v V → k + m = V.2.1 * V.2.2.1 → m < fu → f ≤ 8 → S.1 30 11 = gI f → (f = 0 → mR S (row0 ++ sc_row V.2.2.2 k)) → f = sc_err V.2.2.2 k → ∃ S', f_M_wantRow_b39 fu (some 30) (gI v) (gI k) (gv_ov h S) = some ((), gv_ov h S') ∧ f_M_wantCells_b2 fu (some 30) (gI v) (gI k) (gv_ov h S) = some ((), gv_ov h S') ∧ mX mQR S S' ∧ S'.1 30 11 = gI (sc_err V.2.2.2 (V.2.1 * V.2.2.1)) ∧ (sc_err V.2.2.2 (V.2.1 * V.2.2.1) = 0 → mR S' (row0 ++ sc_row V.2.2.2 (V.2.1 * V.2.2.1))) := by
  have late : ∀ (cs : Nat → gp_C) (m k : Nat), sc_err cs k ≠ 0 → sc_err cs (k + m) = sc_err cs k := by
    intro cs m
    induction m with
    | zero => intro k _; rfl
    | succ m ih =>
      intro k hk
      show bl (sc_err cs (k + m)) _ = _
      rw [ih k hk, bl_p hk]
  intro m
  induction m with
  | zero =>
    intro k fu S f hm hk hf hf8 hb hr he
    obtain ⟨fu, rfl⟩ : ∃ f, fu = f + 1 := ⟨fu - 1, by omega⟩
    obtain ⟨m0, m1, m2, m3, m4⟩ := hm
    have h16 := m0.2.2.1
    rw [f_M_wantRow_b39, f_M_wantCells_b2]
    dsimp only
    unfold f_M_wantRow_b117 f_M_wantCells_b80
    have hle : V.2.1 * V.2.2.1 ≤ k := by omega
    simp (disch := (first | omega | assumption | exact fd_0_n | exact fd_53_n | exact fd_m53_n)) only [↓gg_30_0, ↓gs_30_0, ↓gg_30_1, ↓gs_30_1, ↓gg_30_3, ↓gs_30_3, ↓gg_30_11, ↓gs_30_11, ↓gg_30_12, ↓gs_30_12, ↓gg_30_16, ↓gs_30_16, ↓gg_30_17, ↓gs_30_17, ↓gg_30_18, ↓gs_30_18, ↓gg_30_19, ↓gs_30_19, ↓gg_30_20, ↓gs_30_20, ↓gg_30_21, ↓gs_30_21, ↓gg_30_22, ↓gs_30_22, ↓gg_30_23, ↓gs_30_23, ↓gg_30_24, ↓gs_30_24, ↓gr_30_2, ↓gr_30_4, ↓gr_30_5, ↓gr_30_6, ↓gr_30_7, ↓gr_30_8, ↓gr_30_9, ↓gr_30_10, ↓gr_30_13, ↓gr_30_14, ↓gr_30_15, ↓gc_30, ↓ga_31, ↓gt_31, ↓gl_31, ↓ga_32, ↓gt_32, ↓gl_32, ↓ga_33, ↓gt_33, ↓gl_33, ↓ga_34, ↓gt_34, ↓gl_34, ↓ga_35, ↓gt_35, ↓gl_35, ↓ga_36, ↓gt_36, ↓gl_36, ↓ga_37, ↓gt_37, ↓gl_37, ↓ga_38, ↓gt_38, ↓gl_38, ↓ga_39, ↓gt_39, ↓gl_39, ↓ga_40, ↓gt_40, ↓gl_40, ↓ga_41, ↓gt_41, ↓gl_41, ↓gk_let_eq, ↓gk_ca_some, ↓Option.bind_some, gIl_0, gIl_1, gIl_2, gIl_3, gIl_4, gIl_5, gIl_6, gIl_7, gIl_8, gIl_9, gIl_10, gIl_11, gIl_12, gIl_13, gIl_14, gIl_15, gIl_16, gIl_17, gIl_18, gIl_19, gIl_20, gIl_21, gIl_22, gIl_23, gIl_24, gIl_25, gIl_26, gIl_27, gIl_28, gIl_29, gIl_30, gIl_31, gIl_32, gIl_33, gIl_34, gIl_35, gIl_36, gIl_37, gIl_38, gIl_39, gIl_40, gIl_41, gIl_42, gIl_43, gIl_44, gIl_45, gIl_46, gIl_47, gIl_48, gIl_49, gIl_50, gIl_51, gIl_52, gIl_53, gIl_54, gIl_55, gIl_56, gIl_57, gIl_58, gIl_59, gIl_60, gIl_61, gIl_62, gIl_63, gIl_64, gIl_65, gIl_66, gIl_67, gIl_68, gIl_69, gIl_70, gIl_71, gIl_72, gIl_73, gIl_74, gIl_75, gIl_76, gIl_77, gIl_78, gIl_79, gIl_80, gIl_81, gIl_82, gIl_83, gIl_84, gIl_85, gIl_86, gIl_87, gIl_88, gIl_89, gIl_90, gIl_91, gIl_92, gIl_97, gIl_99, gIl_100, gIl_122, gIl_126, gIl_255, gIl_256, gIl_365, gIl_400, gIl_460, gIl_1900, gIl_3600, gIl_4096, gIl_32767, gIl_65536, gIl_86400, gI_add, gI_mul, gI_sub, ite_le, ite_lt, ite_eq, gI_le, gI_lt, gI_eq, gu_I1, gu_I2, gu_I3, gu_I4, gu_D1, gu_D2, gu_D3, gu_D4, fj_lt, fj_le, fj_gt, fj_ge, fj_eq, ju_lt, ju_le, ju_gt, ju_ge, ju_eq, if_true, if_false, m2, m3, hle]
    have hkk : k = V.2.1 * V.2.2.1 := by omega
    rw [← hkk]
    exact ⟨S, rfl, rfl, mX.refl _ _, by rw [← he]; exact hb, fun z => hr (by omega)⟩
  | succ m ih =>
    intro k fu S f hm hk hf hf8 hb hr he
    obtain ⟨fu, rfl⟩ : ∃ f, fu = f + 1 := ⟨fu - 1, by omega⟩
    obtain ⟨m0, m1, m2, m3, m4⟩ := id hm
    have h16 := m0.2.2.1
    obtain ⟨c1, c2, c3, c4⟩ := m4 k (by omega)
    have hok := m0.2.2.2.1 k (by omega)
    have hk4 := hok.1
    rw [f_M_wantRow_b39, f_M_wantCells_b2]
    dsimp only
    unfold f_M_wantRow_b117 f_M_wantCells_b80
    have hle : ¬ V.2.1 * V.2.2.1 ≤ k := by omega
    by_cases z : f = 0
    · subst z
      have hlr := sc_row_len V.2.2.2 k
      have hnx : sc_err V.2.2.2 (k + 1) = sp_err (V.2.2.2 k) := by
        show bl (sc_err V.2.2.2 k) _ = _
        rw [← he, bl_n]
      by_cases e4 : (V.2.2.2 k).1 = 4
      · have hmd : md (V.2.2.2 k) = FP.i2d (gI (V.2.2.2 k).2.1) := by unfold md; rw [if_neg (by omega)]
        have c1' : (gv_uI S 30 11 (gI (V.2.2.2 k).2.1)).1 35 (16 * v + k) = gI (V.2.2.2 k).1 := c1
        have hcd := hok.2.2.2.2.2.1 e4
        have n41 : ¬ ((V.2.2.2 k).1 = 1) := by omega
        have hse : sp_err (V.2.2.2 k) = (V.2.2.2 k).2.1 := by unfold sp_err; rw [if_pos e4]
        unfold f_M_wantRow_b91 f_M_wantRow_b111 f_M_wantCells_b54 f_M_wantCells_b74
        have hz00 : (gI 0 = gI 0) = True := eq_self _
        simp (disch := (first | omega | assumption | exact fd_0_n | exact fd_53_n | exact fd_m53_n)) only [↓gg_30_0, ↓gs_30_0, ↓gg_30_1, ↓gs_30_1, ↓gg_30_3, ↓gs_30_3, ↓gg_30_11, ↓gs_30_11, ↓gg_30_12, ↓gs_30_12, ↓gg_30_16, ↓gs_30_16, ↓gg_30_17, ↓gs_30_17, ↓gg_30_18, ↓gs_30_18, ↓gg_30_19, ↓gs_30_19, ↓gg_30_20, ↓gs_30_20, ↓gg_30_21, ↓gs_30_21, ↓gg_30_22, ↓gs_30_22, ↓gg_30_23, ↓gs_30_23, ↓gg_30_24, ↓gs_30_24, ↓gr_30_2, ↓gr_30_4, ↓gr_30_5, ↓gr_30_6, ↓gr_30_7, ↓gr_30_8, ↓gr_30_9, ↓gr_30_10, ↓gr_30_13, ↓gr_30_14, ↓gr_30_15, ↓gc_30, ↓ga_31, ↓gt_31, ↓gl_31, ↓ga_32, ↓gt_32, ↓gl_32, ↓ga_33, ↓gt_33, ↓gl_33, ↓ga_34, ↓gt_34, ↓gl_34, ↓ga_35, ↓gt_35, ↓gl_35, ↓ga_36, ↓gt_36, ↓gl_36, ↓ga_37, ↓gt_37, ↓gl_37, ↓ga_38, ↓gt_38, ↓gl_38, ↓ga_39, ↓gt_39, ↓gl_39, ↓ga_40, ↓gt_40, ↓gl_40, ↓ga_41, ↓gt_41, ↓gl_41, ↓gk_let_eq, ↓gk_ca_some, ↓Option.bind_some, gIl_0, gIl_1, gIl_2, gIl_3, gIl_4, gIl_5, gIl_6, gIl_7, gIl_8, gIl_9, gIl_10, gIl_11, gIl_12, gIl_13, gIl_14, gIl_15, gIl_16, gIl_17, gIl_18, gIl_19, gIl_20, gIl_21, gIl_22, gIl_23, gIl_24, gIl_25, gIl_26, gIl_27, gIl_28, gIl_29, gIl_30, gIl_31, gIl_32, gIl_33, gIl_34, gIl_35, gIl_36, gIl_37, gIl_38, gIl_39, gIl_40, gIl_41, gIl_42, gIl_43, gIl_44, gIl_45, gIl_46, gIl_47, gIl_48, gIl_49, gIl_50, gIl_51, gIl_52, gIl_53, gIl_54, gIl_55, gIl_56, gIl_57, gIl_58, gIl_59, gIl_60, gIl_61, gIl_62, gIl_63, gIl_64, gIl_65, gIl_66, gIl_67, gIl_68, gIl_69, gIl_70, gIl_71, gIl_72, gIl_73, gIl_74, gIl_75, gIl_76, gIl_77, gIl_78, gIl_79, gIl_80, gIl_81, gIl_82, gIl_83, gIl_84, gIl_85, gIl_86, gIl_87, gIl_88, gIl_89, gIl_90, gIl_91, gIl_92, gIl_97, gIl_99, gIl_100, gIl_122, gIl_126, gIl_255, gIl_256, gIl_365, gIl_400, gIl_460, gIl_1900, gIl_3600, gIl_4096, gIl_32767, gIl_65536, gIl_86400, gI_add, gI_mul, gI_sub, ite_le, ite_lt, ite_eq, gI_le, gI_lt, gI_eq, gu_I1, gu_I2, gu_I3, gu_I4, gu_D1, gu_D2, gu_D3, gu_D4, fj_lt, fj_le, fj_gt, fj_ge, fj_eq, ju_lt, ju_le, ju_gt, ju_ge, ju_eq, if_true, if_false, m2, m3, hle, hb, hz00, c1, c1', c2, hmd, d2i_i2d', m_fail 0 _ hb (by decide), bl_n, e4, n41]
        have e1 : ¬ (4 = 1) := by decide
        simp (disch := (first | omega | assumption | exact fd_0_n | exact fd_53_n | exact fd_m53_n)) only [e1, if_false]
        have hs1 : (gv_uI S 30 11 (gI (V.2.2.2 k).2.1)).1 30 11 = gI (V.2.2.2 k).2.1 := gu_I2 _ _ _ _
        obtain ⟨S', s1, s2, s3, s4, s5⟩ := ih (k + 1) fu (gv_uI S 30 11 (gI (V.2.2.2 k).2.1)) (V.2.2.2 k).2.1 (hm.X (mX.I (P := mB) _ ⟨rfl, rfl⟩) fun a b q => by unfold mB at q; omega) (by omega) (by omega) (by omega) hs1 (fun q => by omega) (by rw [hnx, hse])
        exact ⟨S', s1, s2, (mX.I _ (Or.inl ⟨rfl, Or.inl rfl⟩)).trans s3, s4, s5⟩
      · have hse : sp_err (V.2.2.2 k) = 0 := by unfold sp_err; rw [if_neg e4]
        have hz00 : (gI 0 = gI 0) = True := eq_self _
        unfold f_M_wantRow_b91 f_M_wantRow_b111 f_M_wantCells_b54 f_M_wantCells_b74
        by_cases e1 : (V.2.2.2 k).1 = 1
        · have hmd : md (V.2.2.2 k) = (V.2.2.2 k).2.2.1 := if_pos e1
          have hg := m_gather (h := h) (V.2.2.2 k).2.2.1 (hr rfl) (by rw [List.length_append]; omega)
          simp (disch := (first | omega | assumption | exact fd_0_n | exact fd_53_n | exact fd_m53_n)) only [↓gg_30_0, ↓gs_30_0, ↓gg_30_1, ↓gs_30_1, ↓gg_30_3, ↓gs_30_3, ↓gg_30_11, ↓gs_30_11, ↓gg_30_12, ↓gs_30_12, ↓gg_30_16, ↓gs_30_16, ↓gg_30_17, ↓gs_30_17, ↓gg_30_18, ↓gs_30_18, ↓gg_30_19, ↓gs_30_19, ↓gg_30_20, ↓gs_30_20, ↓gg_30_21, ↓gs_30_21, ↓gg_30_22, ↓gs_30_22, ↓gg_30_23, ↓gs_30_23, ↓gg_30_24, ↓gs_30_24, ↓gr_30_2, ↓gr_30_4, ↓gr_30_5, ↓gr_30_6, ↓gr_30_7, ↓gr_30_8, ↓gr_30_9, ↓gr_30_10, ↓gr_30_13, ↓gr_30_14, ↓gr_30_15, ↓gc_30, ↓ga_31, ↓gt_31, ↓gl_31, ↓ga_32, ↓gt_32, ↓gl_32, ↓ga_33, ↓gt_33, ↓gl_33, ↓ga_34, ↓gt_34, ↓gl_34, ↓ga_35, ↓gt_35, ↓gl_35, ↓ga_36, ↓gt_36, ↓gl_36, ↓ga_37, ↓gt_37, ↓gl_37, ↓ga_38, ↓gt_38, ↓gl_38, ↓ga_39, ↓gt_39, ↓gl_39, ↓ga_40, ↓gt_40, ↓gl_40, ↓ga_41, ↓gt_41, ↓gl_41, ↓gk_let_eq, ↓gk_ca_some, ↓Option.bind_some, gIl_0, gIl_1, gIl_2, gIl_3, gIl_4, gIl_5, gIl_6, gIl_7, gIl_8, gIl_9, gIl_10, gIl_11, gIl_12, gIl_13, gIl_14, gIl_15, gIl_16, gIl_17, gIl_18, gIl_19, gIl_20, gIl_21, gIl_22, gIl_23, gIl_24, gIl_25, gIl_26, gIl_27, gIl_28, gIl_29, gIl_30, gIl_31, gIl_32, gIl_33, gIl_34, gIl_35, gIl_36, gIl_37, gIl_38, gIl_39, gIl_40, gIl_41, gIl_42, gIl_43, gIl_44, gIl_45, gIl_46, gIl_47, gIl_48, gIl_49, gIl_50, gIl_51, gIl_52, gIl_53, gIl_54, gIl_55, gIl_56, gIl_57, gIl_58, gIl_59, gIl_60, gIl_61, gIl_62, gIl_63, gIl_64, gIl_65, gIl_66, gIl_67, gIl_68, gIl_69, gIl_70, gIl_71, gIl_72, gIl_73, gIl_74, gIl_75, gIl_76, gIl_77, gIl_78, gIl_79, gIl_80, gIl_81, gIl_82, gIl_83, gIl_84, gIl_85, gIl_86, gIl_87, gIl_88, gIl_89, gIl_90, gIl_91, gIl_92, gIl_97, gIl_99, gIl_100, gIl_122, gIl_126, gIl_255, gIl_256, gIl_365, gIl_400, gIl_460, gIl_1900, gIl_3600, gIl_4096, gIl_32767, gIl_65536, gIl_86400, gI_add, gI_mul, gI_sub, ite_le, ite_lt, ite_eq, gI_le, gI_lt, gI_eq, gu_I1, gu_I2, gu_I3, gu_I4, gu_D1, gu_D2, gu_D3, gu_D4, fj_lt, fj_le, fj_gt, fj_ge, fj_eq, ju_lt, ju_le, ju_gt, ju_ge, ju_eq, if_true, if_false, m2, m3, hle, hb, hz00, c1, c2, hmd, e4, hg, e1]
          have e14 : ¬ (1 = 4) := by decide
          simp (disch := (first | omega | assumption | exact fd_0_n | exact fd_53_n | exact fd_m53_n)) only [e14, if_false, ↓gg_30_0, ↓gs_30_0, ↓gg_30_1, ↓gs_30_1, ↓gg_30_3, ↓gs_30_3, ↓gg_30_11, ↓gs_30_11, ↓gg_30_12, ↓gs_30_12, ↓gg_30_16, ↓gs_30_16, ↓gg_30_17, ↓gs_30_17, ↓gg_30_18, ↓gs_30_18, ↓gg_30_19, ↓gs_30_19, ↓gg_30_20, ↓gs_30_20, ↓gg_30_21, ↓gs_30_21, ↓gg_30_22, ↓gs_30_22, ↓gg_30_23, ↓gs_30_23, ↓gg_30_24, ↓gs_30_24, ↓gr_30_2, ↓gr_30_4, ↓gr_30_5, ↓gr_30_6, ↓gr_30_7, ↓gr_30_8, ↓gr_30_9, ↓gr_30_10, ↓gr_30_13, ↓gr_30_14, ↓gr_30_15, ↓gc_30, ↓ga_31, ↓gt_31, ↓gl_31, ↓ga_32, ↓gt_32, ↓gl_32, ↓ga_33, ↓gt_33, ↓gl_33, ↓ga_34, ↓gt_34, ↓gl_34, ↓ga_35, ↓gt_35, ↓gl_35, ↓ga_36, ↓gt_36, ↓gl_36, ↓ga_37, ↓gt_37, ↓gl_37, ↓ga_38, ↓gt_38, ↓gl_38, ↓ga_39, ↓gt_39, ↓gl_39, ↓ga_40, ↓gt_40, ↓gl_40, ↓ga_41, ↓gt_41, ↓gl_41, ↓gk_let_eq, ↓gk_ca_some, ↓Option.bind_some, hg]
          have hX : mX mRw S (gM S (row0 ++ sc_row V.2.2.2 k ++ [(V.2.2.2 k).2.2.1])) := gM_X _ _
          obtain ⟨S', s1, s2, s3, s4, s5⟩ := ih (k + 1) fu _ 0 (hm.X hX fun a b q => by unfold mRw at q; omega) (by omega) (by omega) (by omega) (by rw [gM_i _ _ _ _ (by decide)]; exact hb) (fun _ => by
            have : row0 ++ sc_row V.2.2.2 (k + 1) = row0 ++ sc_row V.2.2.2 k ++ [(V.2.2.2 k).2.2.1] := by
              show row0 ++ (sc_row V.2.2.2 k ++ (if (V.2.2.2 k).1 = 1 then [(V.2.2.2 k).2.2.1] else [])) = _
              rw [if_pos e1, List.append_assoc]
            rw [this]
            exact gM_mR _ _) (by rw [hnx, hse])
          exact ⟨S', s1, s2, (hX.le fun a b q => Or.inr q).trans s3, s4, s5⟩
        · simp (disch := (first | omega | assumption | exact fd_0_n | exact fd_53_n | exact fd_m53_n)) only [↓gg_30_0, ↓gs_30_0, ↓gg_30_1, ↓gs_30_1, ↓gg_30_3, ↓gs_30_3, ↓gg_30_11, ↓gs_30_11, ↓gg_30_12, ↓gs_30_12, ↓gg_30_16, ↓gs_30_16, ↓gg_30_17, ↓gs_30_17, ↓gg_30_18, ↓gs_30_18, ↓gg_30_19, ↓gs_30_19, ↓gg_30_20, ↓gs_30_20, ↓gg_30_21, ↓gs_30_21, ↓gg_30_22, ↓gs_30_22, ↓gg_30_23, ↓gs_30_23, ↓gg_30_24, ↓gs_30_24, ↓gr_30_2, ↓gr_30_4, ↓gr_30_5, ↓gr_30_6, ↓gr_30_7, ↓gr_30_8, ↓gr_30_9, ↓gr_30_10, ↓gr_30_13, ↓gr_30_14, ↓gr_30_15, ↓gc_30, ↓ga_31, ↓gt_31, ↓gl_31, ↓ga_32, ↓gt_32, ↓gl_32, ↓ga_33, ↓gt_33, ↓gl_33, ↓ga_34, ↓gt_34, ↓gl_34, ↓ga_35, ↓gt_35, ↓gl_35, ↓ga_36, ↓gt_36, ↓gl_36, ↓ga_37, ↓gt_37, ↓gl_37, ↓ga_38, ↓gt_38, ↓gl_38, ↓ga_39, ↓gt_39, ↓gl_39, ↓ga_40, ↓gt_40, ↓gl_40, ↓ga_41, ↓gt_41, ↓gl_41, ↓gk_let_eq, ↓gk_ca_some, ↓Option.bind_some, gIl_0, gIl_1, gIl_2, gIl_3, gIl_4, gIl_5, gIl_6, gIl_7, gIl_8, gIl_9, gIl_10, gIl_11, gIl_12, gIl_13, gIl_14, gIl_15, gIl_16, gIl_17, gIl_18, gIl_19, gIl_20, gIl_21, gIl_22, gIl_23, gIl_24, gIl_25, gIl_26, gIl_27, gIl_28, gIl_29, gIl_30, gIl_31, gIl_32, gIl_33, gIl_34, gIl_35, gIl_36, gIl_37, gIl_38, gIl_39, gIl_40, gIl_41, gIl_42, gIl_43, gIl_44, gIl_45, gIl_46, gIl_47, gIl_48, gIl_49, gIl_50, gIl_51, gIl_52, gIl_53, gIl_54, gIl_55, gIl_56, gIl_57, gIl_58, gIl_59, gIl_60, gIl_61, gIl_62, gIl_63, gIl_64, gIl_65, gIl_66, gIl_67, gIl_68, gIl_69, gIl_70, gIl_71, gIl_72, gIl_73, gIl_74, gIl_75, gIl_76, gIl_77, gIl_78, gIl_79, gIl_80, gIl_81, gIl_82, gIl_83, gIl_84, gIl_85, gIl_86, gIl_87, gIl_88, gIl_89, gIl_90, gIl_91, gIl_92, gIl_97, gIl_99, gIl_100, gIl_122, gIl_126, gIl_255, gIl_256, gIl_365, gIl_400, gIl_460, gIl_1900, gIl_3600, gIl_4096, gIl_32767, gIl_65536, gIl_86400, gI_add, gI_mul, gI_sub, ite_le, ite_lt, ite_eq, gI_le, gI_lt, gI_eq, gu_I1, gu_I2, gu_I3, gu_I4, gu_D1, gu_D2, gu_D3, gu_D4, fj_lt, fj_le, fj_gt, fj_ge, fj_eq, ju_lt, ju_le, ju_gt, ju_ge, ju_eq, if_true, if_false, m2, m3, hle, hb, hz00, c1, c2, e4, e1]
          obtain ⟨S', s1, s2, s3, s4, s5⟩ := ih (k + 1) fu S 0 hm (by omega) (by omega) (by omega) hb (fun _ => by
            have : row0 ++ sc_row V.2.2.2 (k + 1) = row0 ++ sc_row V.2.2.2 k := by
              show row0 ++ (sc_row V.2.2.2 k ++ (if (V.2.2.2 k).1 = 1 then [(V.2.2.2 k).2.2.1] else [])) = _
              rw [if_neg e1, List.append_nil]
            rw [this]
            exact hr rfl) (by rw [hnx, hse])
          exact ⟨S', s1, s2, s3, s4, s5⟩
    · simp (disch := (first | omega | assumption | exact fd_0_n | exact fd_53_n | exact fd_m53_n)) only [↓gg_30_0, ↓gs_30_0, ↓gg_30_1, ↓gs_30_1, ↓gg_30_3, ↓gs_30_3, ↓gg_30_11, ↓gs_30_11, ↓gg_30_12, ↓gs_30_12, ↓gg_30_16, ↓gs_30_16, ↓gg_30_17, ↓gs_30_17, ↓gg_30_18, ↓gs_30_18, ↓gg_30_19, ↓gs_30_19, ↓gg_30_20, ↓gs_30_20, ↓gg_30_21, ↓gs_30_21, ↓gg_30_22, ↓gs_30_22, ↓gg_30_23, ↓gs_30_23, ↓gg_30_24, ↓gs_30_24, ↓gr_30_2, ↓gr_30_4, ↓gr_30_5, ↓gr_30_6, ↓gr_30_7, ↓gr_30_8, ↓gr_30_9, ↓gr_30_10, ↓gr_30_13, ↓gr_30_14, ↓gr_30_15, ↓gc_30, ↓ga_31, ↓gt_31, ↓gl_31, ↓ga_32, ↓gt_32, ↓gl_32, ↓ga_33, ↓gt_33, ↓gl_33, ↓ga_34, ↓gt_34, ↓gl_34, ↓ga_35, ↓gt_35, ↓gl_35, ↓ga_36, ↓gt_36, ↓gl_36, ↓ga_37, ↓gt_37, ↓gl_37, ↓ga_38, ↓gt_38, ↓gl_38, ↓ga_39, ↓gt_39, ↓gl_39, ↓ga_40, ↓gt_40, ↓gl_40, ↓ga_41, ↓gt_41, ↓gl_41, ↓gk_let_eq, ↓gk_ca_some, ↓Option.bind_some, gIl_0, gIl_1, gIl_2, gIl_3, gIl_4, gIl_5, gIl_6, gIl_7, gIl_8, gIl_9, gIl_10, gIl_11, gIl_12, gIl_13, gIl_14, gIl_15, gIl_16, gIl_17, gIl_18, gIl_19, gIl_20, gIl_21, gIl_22, gIl_23, gIl_24, gIl_25, gIl_26, gIl_27, gIl_28, gIl_29, gIl_30, gIl_31, gIl_32, gIl_33, gIl_34, gIl_35, gIl_36, gIl_37, gIl_38, gIl_39, gIl_40, gIl_41, gIl_42, gIl_43, gIl_44, gIl_45, gIl_46, gIl_47, gIl_48, gIl_49, gIl_50, gIl_51, gIl_52, gIl_53, gIl_54, gIl_55, gIl_56, gIl_57, gIl_58, gIl_59, gIl_60, gIl_61, gIl_62, gIl_63, gIl_64, gIl_65, gIl_66, gIl_67, gIl_68, gIl_69, gIl_70, gIl_71, gIl_72, gIl_73, gIl_74, gIl_75, gIl_76, gIl_77, gIl_78, gIl_79, gIl_80, gIl_81, gIl_82, gIl_83, gIl_84, gIl_85, gIl_86, gIl_87, gIl_88, gIl_89, gIl_90, gIl_91, gIl_92, gIl_97, gIl_99, gIl_100, gIl_122, gIl_126, gIl_255, gIl_256, gIl_365, gIl_400, gIl_460, gIl_1900, gIl_3600, gIl_4096, gIl_32767, gIl_65536, gIl_86400, gI_add, gI_mul, gI_sub, ite_le, ite_lt, ite_eq, gI_le, gI_lt, gI_eq, gu_I1, gu_I2, gu_I3, gu_I4, gu_D1, gu_D2, gu_D3, gu_D4, fj_lt, fj_le, fj_gt, fj_ge, fj_eq, ju_lt, ju_le, ju_gt, ju_ge, ju_eq, if_true, if_false, m2, m3, hle, hb, z]
      have hlt := late V.2.2.2 (m + 1) k (by omega)
      rw [hk] at hlt
      rw [hlt]
      exact ⟨S, rfl, rfl, mX.refl _ _, by rw [← he]; exact hb, fun q => by omega⟩
theorem m_wantCells {v : Nat} {V : gp_V} (hm : mv S v V) (hv : v < 16) (hb : S.1 30 11 = gI 0) (row0 : List UInt64) (hl0 : row0.length + 16 ≤ 128) (hr : mR S row0) : ∃ S', f_M_wantCells (some 30) (gI v) (gv_ov h S) = some ((), gv_ov h S') ∧ mX mQR S S' ∧ S'.1 30 11 = gI (sc_err V.2.2.2 (V.2.1 * V.2.2.1)) ∧ (sc_err V.2.2.2 (V.2.1 * V.2.2.1) = 0 → mR S' (row0 ++ sc_row V.2.2.2 (V.2.1 * V.2.2.1))) := by
  have h16 := hm.1.2.2.1
  obtain ⟨S', s1, s2, s3, s4, s5⟩ := m_rowloop (h := h) hv row0 hl0 (V.2.1 * V.2.2.1) 0 gk_F S 0 hm (by omega) (by unfold gk_F; omega) (by decide) hb (fun _ => by
    show mR S (row0 ++ [])
    rw [List.append_nil]
    exact hr) rfl
  exact ⟨S', s2, s3, s4, s5⟩
theorem m_wantRow {v : Nat} {V : gp_V} (hm : mv S v V) (hv : v < 16) (hb : S.1 30 11 = gI f) (hf : f ≤ 8) (row0 : List UInt64) (hl0 : row0.length + 16 ≤ 128) (hr : f = 0 → mR S row0) : ∃ S', f_M_wantRow (some 30) (gI v) (gv_ov h S) = some ((), gv_ov h S') ∧ mX mQR S S' ∧ S'.1 30 11 = gI (bl f (if V.1 = 5 then sc_err V.2.2.2 (V.2.1 * V.2.2.1) else (sp_num (sp_1 V)).1)) ∧ (bl f (if V.1 = 5 then sc_err V.2.2.2 (V.2.1 * V.2.2.1) else (sp_num (sp_1 V)).1) = 0 → mR S' (row0 ++ (if V.1 = 5 then sc_row V.2.2.2 (V.2.1 * V.2.2.1) else [(sp_num (sp_1 V)).2]))) := by
  obtain ⟨m0, m1, m2, m3, m4⟩ := id hm
  have h16 := m0.2.2.1
  have h5 : V.1 ≤ 5 := by
    rcases m0.2.2.2.2 with q | ⟨q, q2, q3⟩
    · omega
    · have := (m0.2.2.2.1 0 (by rw [q2, q3]; decide)).1
      omega
  unfold f_M_wantRow
  by_cases z : f = 0
  · subst z
    by_cases e5 : V.1 = 5
    · have e5' : 5 ≤ V.1 := by omega
      simp (disch := (first | omega | assumption | exact fd_0_n | exact fd_53_n | exact fd_m53_n)) only [↓gg_30_0, ↓gs_30_0, ↓gg_30_1, ↓gs_30_1, ↓gg_30_3, ↓gs_30_3, ↓gg_30_11, ↓gs_30_11, ↓gg_30_12, ↓gs_30_12, ↓gg_30_16, ↓gs_30_16, ↓gg_30_17, ↓gs_30_17, ↓gg_30_18, ↓gs_30_18, ↓gg_30_19, ↓gs_30_19, ↓gg_30_20, ↓gs_30_20, ↓gg_30_21, ↓gs_30_21, ↓gg_30_22, ↓gs_30_22, ↓gg_30_23, ↓gs_30_23, ↓gg_30_24, ↓gs_30_24, ↓gr_30_2, ↓gr_30_4, ↓gr_30_5, ↓gr_30_6, ↓gr_30_7, ↓gr_30_8, ↓gr_30_9, ↓gr_30_10, ↓gr_30_13, ↓gr_30_14, ↓gr_30_15, ↓gc_30, ↓ga_31, ↓gt_31, ↓gl_31, ↓ga_32, ↓gt_32, ↓gl_32, ↓ga_33, ↓gt_33, ↓gl_33, ↓ga_34, ↓gt_34, ↓gl_34, ↓ga_35, ↓gt_35, ↓gl_35, ↓ga_36, ↓gt_36, ↓gl_36, ↓ga_37, ↓gt_37, ↓gl_37, ↓ga_38, ↓gt_38, ↓gl_38, ↓ga_39, ↓gt_39, ↓gl_39, ↓ga_40, ↓gt_40, ↓gl_40, ↓ga_41, ↓gt_41, ↓gl_41, ↓gk_let_eq, ↓gk_ca_some, ↓Option.bind_some, gIl_0, gIl_1, gIl_2, gIl_3, gIl_4, gIl_5, gIl_6, gIl_7, gIl_8, gIl_9, gIl_10, gIl_11, gIl_12, gIl_13, gIl_14, gIl_15, gIl_16, gIl_17, gIl_18, gIl_19, gIl_20, gIl_21, gIl_22, gIl_23, gIl_24, gIl_25, gIl_26, gIl_27, gIl_28, gIl_29, gIl_30, gIl_31, gIl_32, gIl_33, gIl_34, gIl_35, gIl_36, gIl_37, gIl_38, gIl_39, gIl_40, gIl_41, gIl_42, gIl_43, gIl_44, gIl_45, gIl_46, gIl_47, gIl_48, gIl_49, gIl_50, gIl_51, gIl_52, gIl_53, gIl_54, gIl_55, gIl_56, gIl_57, gIl_58, gIl_59, gIl_60, gIl_61, gIl_62, gIl_63, gIl_64, gIl_65, gIl_66, gIl_67, gIl_68, gIl_69, gIl_70, gIl_71, gIl_72, gIl_73, gIl_74, gIl_75, gIl_76, gIl_77, gIl_78, gIl_79, gIl_80, gIl_81, gIl_82, gIl_83, gIl_84, gIl_85, gIl_86, gIl_87, gIl_88, gIl_89, gIl_90, gIl_91, gIl_92, gIl_97, gIl_99, gIl_100, gIl_122, gIl_126, gIl_255, gIl_256, gIl_365, gIl_400, gIl_460, gIl_1900, gIl_3600, gIl_4096, gIl_32767, gIl_65536, gIl_86400, gI_add, gI_mul, gI_sub, ite_le, ite_lt, ite_eq, gI_le, gI_lt, gI_eq, gu_I1, gu_I2, gu_I3, gu_I4, gu_D1, gu_D2, gu_D3, gu_D4, fj_lt, fj_le, fj_gt, fj_ge, fj_eq, ju_lt, ju_le, ju_gt, ju_ge, ju_eq, if_true, if_false, hb, m1, e5', Nat.le_refl]
      obtain ⟨S', s1, s2, s3, s4, s5⟩ := m_rowloop (h := h) hv row0 hl0 (V.2.1 * V.2.2.1) 0 gk_F S 0 hm (by omega) (by unfold gk_F; omega) (by decide) hb (fun _ => by
        show mR S (row0 ++ [])
        rw [List.append_nil]
        exact hr rfl) rfl
      rw [bl_n, if_pos e5, if_pos e5]
      exact ⟨S', s1, s3, s4, s5⟩
    · have e5' : ¬ 5 ≤ V.1 := by omega
      obtain ⟨S1, s1, s2, s3⟩ := m_wantNumber (h := h) hm (by omega) hb (by decide)
      rw [if_pos rfl] at s1
      rw [bl_n] at s3
      have hle := sp_num_le (sp_1_ok m0)
      rw [bl_n, if_neg e5, if_neg e5]
      unfold f_M_wantRow_b36
      by_cases e : (sp_num (sp_1 V)).1 = 0
      · have hr1 := (hr rfl).q s2
        have hz00 : (gI 0 = gI 0) = True := eq_self _
        rw [e] at s3
        simp (disch := (first | omega | assumption | exact fd_0_n | exact fd_53_n | exact fd_m53_n)) only [↓gg_30_0, ↓gs_30_0, ↓gg_30_1, ↓gs_30_1, ↓gg_30_3, ↓gs_30_3, ↓gg_30_11, ↓gs_30_11, ↓gg_30_12, ↓gs_30_12, ↓gg_30_16, ↓gs_30_16, ↓gg_30_17, ↓gs_30_17, ↓gg_30_18, ↓gs_30_18, ↓gg_30_19, ↓gs_30_19, ↓gg_30_20, ↓gs_30_20, ↓gg_30_21, ↓gs_30_21, ↓gg_30_22, ↓gs_30_22, ↓gg_30_23, ↓gs_30_23, ↓gg_30_24, ↓gs_30_24, ↓gr_30_2, ↓gr_30_4, ↓gr_30_5, ↓gr_30_6, ↓gr_30_7, ↓gr_30_8, ↓gr_30_9, ↓gr_30_10, ↓gr_30_13, ↓gr_30_14, ↓gr_30_15, ↓gc_30, ↓ga_31, ↓gt_31, ↓gl_31, ↓ga_32, ↓gt_32, ↓gl_32, ↓ga_33, ↓gt_33, ↓gl_33, ↓ga_34, ↓gt_34, ↓gl_34, ↓ga_35, ↓gt_35, ↓gl_35, ↓ga_36, ↓gt_36, ↓gl_36, ↓ga_37, ↓gt_37, ↓gl_37, ↓ga_38, ↓gt_38, ↓gl_38, ↓ga_39, ↓gt_39, ↓gl_39, ↓ga_40, ↓gt_40, ↓gl_40, ↓ga_41, ↓gt_41, ↓gl_41, ↓gk_let_eq, ↓gk_ca_some, ↓Option.bind_some, gIl_0, gIl_1, gIl_2, gIl_3, gIl_4, gIl_5, gIl_6, gIl_7, gIl_8, gIl_9, gIl_10, gIl_11, gIl_12, gIl_13, gIl_14, gIl_15, gIl_16, gIl_17, gIl_18, gIl_19, gIl_20, gIl_21, gIl_22, gIl_23, gIl_24, gIl_25, gIl_26, gIl_27, gIl_28, gIl_29, gIl_30, gIl_31, gIl_32, gIl_33, gIl_34, gIl_35, gIl_36, gIl_37, gIl_38, gIl_39, gIl_40, gIl_41, gIl_42, gIl_43, gIl_44, gIl_45, gIl_46, gIl_47, gIl_48, gIl_49, gIl_50, gIl_51, gIl_52, gIl_53, gIl_54, gIl_55, gIl_56, gIl_57, gIl_58, gIl_59, gIl_60, gIl_61, gIl_62, gIl_63, gIl_64, gIl_65, gIl_66, gIl_67, gIl_68, gIl_69, gIl_70, gIl_71, gIl_72, gIl_73, gIl_74, gIl_75, gIl_76, gIl_77, gIl_78, gIl_79, gIl_80, gIl_81, gIl_82, gIl_83, gIl_84, gIl_85, gIl_86, gIl_87, gIl_88, gIl_89, gIl_90, gIl_91, gIl_92, gIl_97, gIl_99, gIl_100, gIl_122, gIl_126, gIl_255, gIl_256, gIl_365, gIl_400, gIl_460, gIl_1900, gIl_3600, gIl_4096, gIl_32767, gIl_65536, gIl_86400, gI_add, gI_mul, gI_sub, ite_le, ite_lt, ite_eq, gI_le, gI_lt, gI_eq, gu_I1, gu_I2, gu_I3, gu_I4, gu_D1, gu_D2, gu_D3, gu_D4, fj_lt, fj_le, fj_gt, fj_ge, fj_eq, ju_lt, ju_le, ju_gt, ju_ge, ju_eq, if_true, if_false, hb, m1, e5', Nat.le_refl, s1, s3, hz00, m_gather (h := h) (sp_num (sp_1 V)).2 hr1]
        rw [e]
        refine ⟨_, rfl, (s2.le fun a b q => Or.inl q).trans ((gM_X _ _).le fun a b q => Or.inr q), ?_, fun _ => gM_mR _ _⟩
        rw [gM_i _ _ _ _ (by decide)]
        exact s3
      · simp (disch := (first | omega | assumption | exact fd_0_n | exact fd_53_n | exact fd_m53_n)) only [↓gg_30_0, ↓gs_30_0, ↓gg_30_1, ↓gs_30_1, ↓gg_30_3, ↓gs_30_3, ↓gg_30_11, ↓gs_30_11, ↓gg_30_12, ↓gs_30_12, ↓gg_30_16, ↓gs_30_16, ↓gg_30_17, ↓gs_30_17, ↓gg_30_18, ↓gs_30_18, ↓gg_30_19, ↓gs_30_19, ↓gg_30_20, ↓gs_30_20, ↓gg_30_21, ↓gs_30_21, ↓gg_30_22, ↓gs_30_22, ↓gg_30_23, ↓gs_30_23, ↓gg_30_24, ↓gs_30_24, ↓gr_30_2, ↓gr_30_4, ↓gr_30_5, ↓gr_30_6, ↓gr_30_7, ↓gr_30_8, ↓gr_30_9, ↓gr_30_10, ↓gr_30_13, ↓gr_30_14, ↓gr_30_15, ↓gc_30, ↓ga_31, ↓gt_31, ↓gl_31, ↓ga_32, ↓gt_32, ↓gl_32, ↓ga_33, ↓gt_33, ↓gl_33, ↓ga_34, ↓gt_34, ↓gl_34, ↓ga_35, ↓gt_35, ↓gl_35, ↓ga_36, ↓gt_36, ↓gl_36, ↓ga_37, ↓gt_37, ↓gl_37, ↓ga_38, ↓gt_38, ↓gl_38, ↓ga_39, ↓gt_39, ↓gl_39, ↓ga_40, ↓gt_40, ↓gl_40, ↓ga_41, ↓gt_41, ↓gl_41, ↓gk_let_eq, ↓gk_ca_some, ↓Option.bind_some, gIl_0, gIl_1, gIl_2, gIl_3, gIl_4, gIl_5, gIl_6, gIl_7, gIl_8, gIl_9, gIl_10, gIl_11, gIl_12, gIl_13, gIl_14, gIl_15, gIl_16, gIl_17, gIl_18, gIl_19, gIl_20, gIl_21, gIl_22, gIl_23, gIl_24, gIl_25, gIl_26, gIl_27, gIl_28, gIl_29, gIl_30, gIl_31, gIl_32, gIl_33, gIl_34, gIl_35, gIl_36, gIl_37, gIl_38, gIl_39, gIl_40, gIl_41, gIl_42, gIl_43, gIl_44, gIl_45, gIl_46, gIl_47, gIl_48, gIl_49, gIl_50, gIl_51, gIl_52, gIl_53, gIl_54, gIl_55, gIl_56, gIl_57, gIl_58, gIl_59, gIl_60, gIl_61, gIl_62, gIl_63, gIl_64, gIl_65, gIl_66, gIl_67, gIl_68, gIl_69, gIl_70, gIl_71, gIl_72, gIl_73, gIl_74, gIl_75, gIl_76, gIl_77, gIl_78, gIl_79, gIl_80, gIl_81, gIl_82, gIl_83, gIl_84, gIl_85, gIl_86, gIl_87, gIl_88, gIl_89, gIl_90, gIl_91, gIl_92, gIl_97, gIl_99, gIl_100, gIl_122, gIl_126, gIl_255, gIl_256, gIl_365, gIl_400, gIl_460, gIl_1900, gIl_3600, gIl_4096, gIl_32767, gIl_65536, gIl_86400, gI_add, gI_mul, gI_sub, ite_le, ite_lt, ite_eq, gI_le, gI_lt, gI_eq, gu_I1, gu_I2, gu_I3, gu_I4, gu_D1, gu_D2, gu_D3, gu_D4, fj_lt, fj_le, fj_gt, fj_ge, fj_eq, ju_lt, ju_le, ju_gt, ju_ge, ju_eq, if_true, if_false, hb, m1, e5', Nat.le_refl, s1, s3, e]
        exact ⟨S1, rfl, s2.le fun a b q => Or.inl q, s3, fun q => by cases q⟩
  · have z' : ¬ f ≤ 0 := by omega
    simp (disch := (first | omega | assumption | exact fd_0_n | exact fd_53_n | exact fd_m53_n)) only [↓gg_30_0, ↓gs_30_0, ↓gg_30_1, ↓gs_30_1, ↓gg_30_3, ↓gs_30_3, ↓gg_30_11, ↓gs_30_11, ↓gg_30_12, ↓gs_30_12, ↓gg_30_16, ↓gs_30_16, ↓gg_30_17, ↓gs_30_17, ↓gg_30_18, ↓gs_30_18, ↓gg_30_19, ↓gs_30_19, ↓gg_30_20, ↓gs_30_20, ↓gg_30_21, ↓gs_30_21, ↓gg_30_22, ↓gs_30_22, ↓gg_30_23, ↓gs_30_23, ↓gg_30_24, ↓gs_30_24, ↓gr_30_2, ↓gr_30_4, ↓gr_30_5, ↓gr_30_6, ↓gr_30_7, ↓gr_30_8, ↓gr_30_9, ↓gr_30_10, ↓gr_30_13, ↓gr_30_14, ↓gr_30_15, ↓gc_30, ↓ga_31, ↓gt_31, ↓gl_31, ↓ga_32, ↓gt_32, ↓gl_32, ↓ga_33, ↓gt_33, ↓gl_33, ↓ga_34, ↓gt_34, ↓gl_34, ↓ga_35, ↓gt_35, ↓gl_35, ↓ga_36, ↓gt_36, ↓gl_36, ↓ga_37, ↓gt_37, ↓gl_37, ↓ga_38, ↓gt_38, ↓gl_38, ↓ga_39, ↓gt_39, ↓gl_39, ↓ga_40, ↓gt_40, ↓gl_40, ↓ga_41, ↓gt_41, ↓gl_41, ↓gk_let_eq, ↓gk_ca_some, ↓Option.bind_some, gIl_0, gIl_1, gIl_2, gIl_3, gIl_4, gIl_5, gIl_6, gIl_7, gIl_8, gIl_9, gIl_10, gIl_11, gIl_12, gIl_13, gIl_14, gIl_15, gIl_16, gIl_17, gIl_18, gIl_19, gIl_20, gIl_21, gIl_22, gIl_23, gIl_24, gIl_25, gIl_26, gIl_27, gIl_28, gIl_29, gIl_30, gIl_31, gIl_32, gIl_33, gIl_34, gIl_35, gIl_36, gIl_37, gIl_38, gIl_39, gIl_40, gIl_41, gIl_42, gIl_43, gIl_44, gIl_45, gIl_46, gIl_47, gIl_48, gIl_49, gIl_50, gIl_51, gIl_52, gIl_53, gIl_54, gIl_55, gIl_56, gIl_57, gIl_58, gIl_59, gIl_60, gIl_61, gIl_62, gIl_63, gIl_64, gIl_65, gIl_66, gIl_67, gIl_68, gIl_69, gIl_70, gIl_71, gIl_72, gIl_73, gIl_74, gIl_75, gIl_76, gIl_77, gIl_78, gIl_79, gIl_80, gIl_81, gIl_82, gIl_83, gIl_84, gIl_85, gIl_86, gIl_87, gIl_88, gIl_89, gIl_90, gIl_91, gIl_92, gIl_97, gIl_99, gIl_100, gIl_122, gIl_126, gIl_255, gIl_256, gIl_365, gIl_400, gIl_460, gIl_1900, gIl_3600, gIl_4096, gIl_32767, gIl_65536, gIl_86400, gI_add, gI_mul, gI_sub, ite_le, ite_lt, ite_eq, gI_le, gI_lt, gI_eq, gu_I1, gu_I2, gu_I3, gu_I4, gu_D1, gu_D2, gu_D3, gu_D4, fj_lt, fj_le, fj_gt, fj_ge, fj_eq, ju_lt, ju_le, ju_gt, ju_ge, ju_eq, if_true, if_false, hb, z']
    rw [bl_p z]
    exact ⟨S, rfl, mX.refl _ _, hb, fun q => absurd q z⟩
theorem m_wantRows {a n : Nat} {vs : Nat → gp_V} (hv : ∀ k, k < n → mv S (a + k) (vs k)) (han : a + n ≤ 16) (hn : n ≤ 8) (hb : S.1 30 11 = gI 0) : ∃ S', f_M_wantRows (some 30) (gI a) (gI n) (gv_ov h S) = some ((), gv_ov h S') ∧ mX mQR S S' ∧ S'.1 30 11 = gI (sg_err vs n) ∧ (sg_err vs n = 0 → mR S' (sg_row vs n)) := by
  have loop : ∀ (m k fu : Nat) (S : gv_S), k + m = n → m < fu → (∀ j, j < n → mv S (a + j) (vs j)) → S.1 30 11 = gI (sg_err vs k) → (sg_err vs k = 0 → mR S (sg_row vs k)) → ∃ S', f_M_wantRows_b7 fu (some 30) (gI a) (gI n) (gI (a + k)) (gv_ov h S) = some ((), gv_ov h S') ∧ mX mQR S S' ∧ S'.1 30 11 = gI (sg_err vs n) ∧ (sg_err vs n = 0 → mR S' (sg_row vs n)) := by
    intro m
    induction m with
    | zero =>
      intro k fu S hk hf hm hb hr
      obtain ⟨fu, rfl⟩ : ∃ f, fu = f + 1 := ⟨fu - 1, by omega⟩
      rw [f_M_wantRows_b7]
      dsimp only
      have hle : a + n ≤ a + k := by omega
      simp (disch := (first | omega | assumption | exact fd_0_n | exact fd_53_n | exact fd_m53_n)) only [↓gg_30_0, ↓gs_30_0, ↓gg_30_1, ↓gs_30_1, ↓gg_30_3, ↓gs_30_3, ↓gg_30_11, ↓gs_30_11, ↓gg_30_12, ↓gs_30_12, ↓gg_30_16, ↓gs_30_16, ↓gg_30_17, ↓gs_30_17, ↓gg_30_18, ↓gs_30_18, ↓gg_30_19, ↓gs_30_19, ↓gg_30_20, ↓gs_30_20, ↓gg_30_21, ↓gs_30_21, ↓gg_30_22, ↓gs_30_22, ↓gg_30_23, ↓gs_30_23, ↓gg_30_24, ↓gs_30_24, ↓gr_30_2, ↓gr_30_4, ↓gr_30_5, ↓gr_30_6, ↓gr_30_7, ↓gr_30_8, ↓gr_30_9, ↓gr_30_10, ↓gr_30_13, ↓gr_30_14, ↓gr_30_15, ↓gc_30, ↓ga_31, ↓gt_31, ↓gl_31, ↓ga_32, ↓gt_32, ↓gl_32, ↓ga_33, ↓gt_33, ↓gl_33, ↓ga_34, ↓gt_34, ↓gl_34, ↓ga_35, ↓gt_35, ↓gl_35, ↓ga_36, ↓gt_36, ↓gl_36, ↓ga_37, ↓gt_37, ↓gl_37, ↓ga_38, ↓gt_38, ↓gl_38, ↓ga_39, ↓gt_39, ↓gl_39, ↓ga_40, ↓gt_40, ↓gl_40, ↓ga_41, ↓gt_41, ↓gl_41, ↓gk_let_eq, ↓gk_ca_some, ↓Option.bind_some, gIl_0, gIl_1, gIl_2, gIl_3, gIl_4, gIl_5, gIl_6, gIl_7, gIl_8, gIl_9, gIl_10, gIl_11, gIl_12, gIl_13, gIl_14, gIl_15, gIl_16, gIl_17, gIl_18, gIl_19, gIl_20, gIl_21, gIl_22, gIl_23, gIl_24, gIl_25, gIl_26, gIl_27, gIl_28, gIl_29, gIl_30, gIl_31, gIl_32, gIl_33, gIl_34, gIl_35, gIl_36, gIl_37, gIl_38, gIl_39, gIl_40, gIl_41, gIl_42, gIl_43, gIl_44, gIl_45, gIl_46, gIl_47, gIl_48, gIl_49, gIl_50, gIl_51, gIl_52, gIl_53, gIl_54, gIl_55, gIl_56, gIl_57, gIl_58, gIl_59, gIl_60, gIl_61, gIl_62, gIl_63, gIl_64, gIl_65, gIl_66, gIl_67, gIl_68, gIl_69, gIl_70, gIl_71, gIl_72, gIl_73, gIl_74, gIl_75, gIl_76, gIl_77, gIl_78, gIl_79, gIl_80, gIl_81, gIl_82, gIl_83, gIl_84, gIl_85, gIl_86, gIl_87, gIl_88, gIl_89, gIl_90, gIl_91, gIl_92, gIl_97, gIl_99, gIl_100, gIl_122, gIl_126, gIl_255, gIl_256, gIl_365, gIl_400, gIl_460, gIl_1900, gIl_3600, gIl_4096, gIl_32767, gIl_65536, gIl_86400, gI_add, gI_mul, gI_sub, ite_le, ite_lt, ite_eq, gI_le, gI_lt, gI_eq, gu_I1, gu_I2, gu_I3, gu_I4, gu_D1, gu_D2, gu_D3, gu_D4, fj_lt, fj_le, fj_gt, fj_ge, fj_eq, ju_lt, ju_le, ju_gt, ju_ge, ju_eq, if_true, if_false, hle]
      have : k = n := by omega
      subst this
      exact ⟨S, rfl, mX.refl _ _, hb, hr⟩
    | succ m ih =>
      intro k fu S hk hf hm hb hr
      obtain ⟨fu, rfl⟩ : ∃ f, fu = f + 1 := ⟨fu - 1, by omega⟩
      rw [f_M_wantRows_b7]
      dsimp only
      have hle : ¬ a + n ≤ a + k := by omega
      have hoks : ∀ j, j < k → gp_okV (vs j) := fun j hj => (hm j (by omega)).1
      have hlen := sg_row_len vs k hoks
      obtain ⟨S1, s1, s2, s3, s4⟩ := m_wantRow (h := h) (hm k (by omega)) (by omega) hb (sg_err_le vs k hoks) (sg_row vs k) (by omega) hr
      simp (disch := (first | omega | assumption | exact fd_0_n | exact fd_53_n | exact fd_m53_n)) only [↓gg_30_0, ↓gs_30_0, ↓gg_30_1, ↓gs_30_1, ↓gg_30_3, ↓gs_30_3, ↓gg_30_11, ↓gs_30_11, ↓gg_30_12, ↓gs_30_12, ↓gg_30_16, ↓gs_30_16, ↓gg_30_17, ↓gs_30_17, ↓gg_30_18, ↓gs_30_18, ↓gg_30_19, ↓gs_30_19, ↓gg_30_20, ↓gs_30_20, ↓gg_30_21, ↓gs_30_21, ↓gg_30_22, ↓gs_30_22, ↓gg_30_23, ↓gs_30_23, ↓gg_30_24, ↓gs_30_24, ↓gr_30_2, ↓gr_30_4, ↓gr_30_5, ↓gr_30_6, ↓gr_30_7, ↓gr_30_8, ↓gr_30_9, ↓gr_30_10, ↓gr_30_13, ↓gr_30_14, ↓gr_30_15, ↓gc_30, ↓ga_31, ↓gt_31, ↓gl_31, ↓ga_32, ↓gt_32, ↓gl_32, ↓ga_33, ↓gt_33, ↓gl_33, ↓ga_34, ↓gt_34, ↓gl_34, ↓ga_35, ↓gt_35, ↓gl_35, ↓ga_36, ↓gt_36, ↓gl_36, ↓ga_37, ↓gt_37, ↓gl_37, ↓ga_38, ↓gt_38, ↓gl_38, ↓ga_39, ↓gt_39, ↓gl_39, ↓ga_40, ↓gt_40, ↓gl_40, ↓ga_41, ↓gt_41, ↓gl_41, ↓gk_let_eq, ↓gk_ca_some, ↓Option.bind_some, gIl_0, gIl_1, gIl_2, gIl_3, gIl_4, gIl_5, gIl_6, gIl_7, gIl_8, gIl_9, gIl_10, gIl_11, gIl_12, gIl_13, gIl_14, gIl_15, gIl_16, gIl_17, gIl_18, gIl_19, gIl_20, gIl_21, gIl_22, gIl_23, gIl_24, gIl_25, gIl_26, gIl_27, gIl_28, gIl_29, gIl_30, gIl_31, gIl_32, gIl_33, gIl_34, gIl_35, gIl_36, gIl_37, gIl_38, gIl_39, gIl_40, gIl_41, gIl_42, gIl_43, gIl_44, gIl_45, gIl_46, gIl_47, gIl_48, gIl_49, gIl_50, gIl_51, gIl_52, gIl_53, gIl_54, gIl_55, gIl_56, gIl_57, gIl_58, gIl_59, gIl_60, gIl_61, gIl_62, gIl_63, gIl_64, gIl_65, gIl_66, gIl_67, gIl_68, gIl_69, gIl_70, gIl_71, gIl_72, gIl_73, gIl_74, gIl_75, gIl_76, gIl_77, gIl_78, gIl_79, gIl_80, gIl_81, gIl_82, gIl_83, gIl_84, gIl_85, gIl_86, gIl_87, gIl_88, gIl_89, gIl_90, gIl_91, gIl_92, gIl_97, gIl_99, gIl_100, gIl_122, gIl_126, gIl_255, gIl_256, gIl_365, gIl_400, gIl_460, gIl_1900, gIl_3600, gIl_4096, gIl_32767, gIl_65536, gIl_86400, gI_add, gI_mul, gI_sub, ite_le, ite_lt, ite_eq, gI_le, gI_lt, gI_eq, gu_I1, gu_I2, gu_I3, gu_I4, gu_D1, gu_D2, gu_D3, gu_D4, fj_lt, fj_le, fj_gt, fj_ge, fj_eq, ju_lt, ju_le, ju_gt, ju_ge, ju_eq, if_true, if_false, hle, s1]
      obtain ⟨S', t1, t2, t3, t4⟩ := ih (k + 1) fu S1 (by omega) (by omega) (fun j hj => (hm j hj).q s2 fun a b q => mQR_lo q) s3 s4
      exact ⟨S', t1, s2.trans t2, t3, t4⟩
  unfold f_M_wantRows
  simp (disch := (first | omega | assumption | exact fd_0_n | exact fd_53_n | exact fd_m53_n)) only [↓gg_30_0, ↓gs_30_0, ↓gg_30_1, ↓gs_30_1, ↓gg_30_3, ↓gs_30_3, ↓gg_30_11, ↓gs_30_11, ↓gg_30_12, ↓gs_30_12, ↓gg_30_16, ↓gs_30_16, ↓gg_30_17, ↓gs_30_17, ↓gg_30_18, ↓gs_30_18, ↓gg_30_19, ↓gs_30_19, ↓gg_30_20, ↓gs_30_20, ↓gg_30_21, ↓gs_30_21, ↓gg_30_22, ↓gs_30_22, ↓gg_30_23, ↓gs_30_23, ↓gg_30_24, ↓gs_30_24, ↓gr_30_2, ↓gr_30_4, ↓gr_30_5, ↓gr_30_6, ↓gr_30_7, ↓gr_30_8, ↓gr_30_9, ↓gr_30_10, ↓gr_30_13, ↓gr_30_14, ↓gr_30_15, ↓gc_30, ↓ga_31, ↓gt_31, ↓gl_31, ↓ga_32, ↓gt_32, ↓gl_32, ↓ga_33, ↓gt_33, ↓gl_33, ↓ga_34, ↓gt_34, ↓gl_34, ↓ga_35, ↓gt_35, ↓gl_35, ↓ga_36, ↓gt_36, ↓gl_36, ↓ga_37, ↓gt_37, ↓gl_37, ↓ga_38, ↓gt_38, ↓gl_38, ↓ga_39, ↓gt_39, ↓gl_39, ↓ga_40, ↓gt_40, ↓gl_40, ↓ga_41, ↓gt_41, ↓gl_41, ↓gk_let_eq, ↓gk_ca_some, ↓Option.bind_some, gIl_0, gIl_1, gIl_2, gIl_3, gIl_4, gIl_5, gIl_6, gIl_7, gIl_8, gIl_9, gIl_10, gIl_11, gIl_12, gIl_13, gIl_14, gIl_15, gIl_16, gIl_17, gIl_18, gIl_19, gIl_20, gIl_21, gIl_22, gIl_23, gIl_24, gIl_25, gIl_26, gIl_27, gIl_28, gIl_29, gIl_30, gIl_31, gIl_32, gIl_33, gIl_34, gIl_35, gIl_36, gIl_37, gIl_38, gIl_39, gIl_40, gIl_41, gIl_42, gIl_43, gIl_44, gIl_45, gIl_46, gIl_47, gIl_48, gIl_49, gIl_50, gIl_51, gIl_52, gIl_53, gIl_54, gIl_55, gIl_56, gIl_57, gIl_58, gIl_59, gIl_60, gIl_61, gIl_62, gIl_63, gIl_64, gIl_65, gIl_66, gIl_67, gIl_68, gIl_69, gIl_70, gIl_71, gIl_72, gIl_73, gIl_74, gIl_75, gIl_76, gIl_77, gIl_78, gIl_79, gIl_80, gIl_81, gIl_82, gIl_83, gIl_84, gIl_85, gIl_86, gIl_87, gIl_88, gIl_89, gIl_90, gIl_91, gIl_92, gIl_97, gIl_99, gIl_100, gIl_122, gIl_126, gIl_255, gIl_256, gIl_365, gIl_400, gIl_460, gIl_1900, gIl_3600, gIl_4096, gIl_32767, gIl_65536, gIl_86400, gI_add, gI_mul, gI_sub, ite_le, ite_lt, ite_eq, gI_le, gI_lt, gI_eq, gu_I1, gu_I2, gu_I3, gu_I4, gu_D1, gu_D2, gu_D3, gu_D4, fj_lt, fj_le, fj_gt, fj_ge, fj_eq, ju_lt, ju_le, ju_gt, ju_ge, ju_eq, if_true, if_false]
  obtain ⟨S', t1, t2, t3, t4⟩ := loop n 0 gk_F (gM S []) (by omega) (by unfold gk_F; omega) (fun j hj => (hv j hj).q (gM_X S []) fun x y q => by unfold mRw at q; omega) (by rw [gM_i _ _ _ _ (by decide)]; exact hb) (fun _ => gM_mR _ _)
  rw [gM_0]
  exact ⟨S', t1, ((gM_X S []).le fun x y q => Or.inr q).trans t2, t3, t4⟩
end MRO
