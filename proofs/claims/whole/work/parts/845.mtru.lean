/-! THE PURE PART: the reference sorts; truths -/
section MSO
variable {h : gk_H} {S : gv_S}
theorem ms_in (g : Option Nat → Int32 → gk_H → Option (Unit × gk_H)) (x : UInt64) (hx : fd_n x) (fr : Nat) : ∀ (R : List UInt64) (w : UInt64) (B : List UInt64) (fu : Nat), R.length < fu → (R.length + 1 + B.length ≤ 128) → (∀ y ∈ R, fd_n y) → f_M_sort_b20 g fu (some 30) (gI fr) x (gI R.length) (gv_ov h (gM S (R.reverse ++ w :: B))) = g (some 30) (gI (fr + 1)) (gv_ov h (gM S (sr_in R x B))) := by
  intro R
  induction R with
  | nil =>
    intro w B fu hf hl hR
    obtain ⟨fu, rfl⟩ : ∃ f, fu = f + 1 := ⟨fu - 1, by omega⟩
    rw [f_M_sort_b20]
    dsimp only
    unfold f_M_sort_b61
    rw [List.length_nil, gI_0, ite_le _ _ _ _ (by decide) (by decide), if_pos (Nat.le_refl _), gr_30_13, gt_39 (by decide), gk_let_eq, gI_1, gI_add, gM_set _ _ _ _ (by simp)]
    rfl
  | cons y R ih =>
    intro w B fu hf hl hR
    obtain ⟨fu, rfl⟩ : ∃ f, fu = f + 1 := ⟨fu - 1, by omega⟩
    rw [List.length_cons] at hf hl
    have hy := hR y List.mem_cons_self
    have hlen : ((y :: R).reverse ++ w :: B).length = R.length + 1 + (B.length + 1) := by
      simp
      omega
    have eg : ((y :: R).reverse ++ w :: B).getD R.length 0 = y := by
      rw [List.reverse_cons, List.append_assoc]
      exact gp_get_mid R (w :: B) y
    rw [f_M_sort_b20]
    dsimp only
    rw [List.length_cons, gI_0, ite_le _ _ _ _ (by omega) (by decide), if_neg (by omega), gr_30_13, gI_1, gI_sub _ _ (by omega), Nat.add_sub_cancel, ga_39 (by omega), gM_row _ _ _ (by omega), eg, ← gI_0, fi_le _ _ hy hx]
    unfold sr_in
    by_cases z : fd_k y ≤ fd_k x
    · rw [if_pos z, if_pos z]
      unfold f_M_sort_b61
      rw [gr_30_13, gt_39 (by omega), gk_let_eq, gI_1, gI_add, gM_set _ _ _ _ (by omega)]
      have := gp_set_mid (y :: R) B w x
      rw [List.length_cons] at this
      rw [this]
    · have e1 : ((y :: R).reverse ++ w :: B).set (R.length + 1) y = R.reverse ++ y :: y :: B := by
        have := gp_set_mid (y :: R) B w y
        rw [List.length_cons] at this
        rw [this, List.reverse_cons, List.append_assoc]
        rfl
      have e2 : gI (R.length + 1) + -gI 1 = gI R.length := by
        have : -gI 1 = gN (-1) := rfl
        rw [gI_N, this, gN_add, gI_N]
        congr 1
        omega
      rw [if_neg z, if_neg z, gr_30_13, gr_30_13, ga_39 (by omega), gM_row _ _ _ (by omega), eg, gt_39 (by omega), gM_set _ _ _ _ (by omega), e1, gk_let_eq, e2]
      exact ih y (y :: B) fu (by omega) (by rw [List.length_cons]; omega) (fun q hq => hR q (List.mem_cons_of_mem _ hq))
theorem ms_out : ∀ (r P : List UInt64) (fu : Nat), r.length < fu → P.length + r.length ≤ 128 → 1 ≤ P.length → (∀ y ∈ P, fd_n y) → (∀ y ∈ r, fd_n y) → f_M_sort_b2 fu (some 30) (gI P.length) (gv_ov h (gM S (P ++ r))) = some ((), gv_ov h (gM S (sr_to P r))) := by
  intro r
  induction r with
  | nil =>
    intro P fu hf hl hp _ _
    obtain ⟨fu, rfl⟩ : ∃ f, fu = f + 1 := ⟨fu - 1, by omega⟩
    rw [List.length_nil] at hl
    rw [f_M_sort_b2]
    dsimp only
    rw [gg_30_12, gM_12, List.append_nil, ite_le _ _ _ _ (by omega) (by omega), if_pos (Nat.le_refl _)]
    rfl
  | cons x r ih =>
    intro P fu hf hl hp hP hr
    obtain ⟨fu, rfl⟩ : ∃ f, fu = f + 1 := ⟨fu - 1, by omega⟩
    rw [List.length_cons] at hf hl
    have hx := hr x List.mem_cons_self
    have hlen : (P ++ x :: r).length = P.length + (r.length + 1) := by simp
    rw [f_M_sort_b2]
    dsimp only
    rw [gg_30_12, gM_12, ite_le _ _ _ _ (by omega) (by omega), if_neg (by omega), gr_30_13, ga_39 (by omega), gM_row _ _ _ (by omega)]
    have eg : (P ++ x :: r).getD P.length 0 = x := by simp [List.getD_eq_getElem?_getD]
    have e1 := ms_in (h := h) (S := S) (f_M_sort_b2 fu) x hx P.length P.reverse x r gk_F (by rw [List.length_reverse]; unfold gk_F; omega) (by rw [List.length_reverse]; omega) (fun y hy => hP y (List.mem_reverse.mp hy))
    rw [List.length_reverse, List.reverse_reverse] at e1
    rw [eg, e1, sr_in_app]
    have e2 := ih (sr_in P.reverse x []) fu (by omega) (by rw [sr_in_len, List.length_reverse, List.length_nil]; omega) (by rw [sr_in_len]; omega) (fun y hy => by
      rcases sr_in_mem _ _ _ _ hy with q | q | q
      · exact hP y (List.mem_reverse.mp q)
      · rw [q]; exact hx
      · exact absurd q List.not_mem_nil) (fun y hy => hr y (List.mem_cons_of_mem _ hy))
    rw [sr_in_len, List.length_reverse, List.length_nil, Nat.add_zero] at e2
    exact e2
theorem m_sort (row : List UInt64) (hl : row.length ≤ 128) (hr : ∀ y ∈ row, fd_n y) : f_M_sort (some 30) (gv_ov h (gM S row)) = some ((), gv_ov h (gM S (sr row))) := by
  unfold f_M_sort
  cases row with
  | nil =>
    have : gk_F = (gk_F - 1) + 1 := rfl
    rw [this, f_M_sort_b2]
    dsimp only
    rw [gg_30_12, gM_12, List.length_nil, gI_1, ite_le _ _ _ _ (by decide) (by decide), if_pos (by decide)]
    rfl
  | cons x r =>
    rw [List.length_cons] at hl
    exact ms_out r [x] gk_F (by unfold gk_F; omega) (by rw [List.length_singleton]; omega) (Nat.le_refl _) (fun y hy => hr y (by rw [List.mem_singleton.mp hy]; exact List.mem_cons_self)) (fun y hy => hr y (List.mem_cons_of_mem _ hy))
end MSO
/-- two texts are the same, small letters being great ones -/
theorem nl_ord_0 : ∀ (l t : List Nat), nl_ord l t = 0 ↔ l.map nl_g = t.map nl_g
  | [], [] => ⟨fun _ => rfl, fun _ => rfl⟩
  | [], d :: t => by
    unfold nl_ord
    rw [List.length_cons]
    refine ⟨fun z => by omega, fun z => by cases z⟩
  | c :: l, [] => by
    unfold nl_ord
    rw [List.length_cons]
    refine ⟨fun z => by omega, fun z => by cases z⟩
  | c :: l, d :: t => by
    unfold nl_ord
    rw [List.map_cons, List.map_cons]
    by_cases e : nl_g c = nl_g d
    · rw [if_pos e, nl_ord_0 l t, e]
      exact ⟨fun z => by rw [z], fun z => by injection z⟩
    · rw [if_neg e]
      refine ⟨fun z => by omega, fun z => ?_⟩
      injection z with z _
      exact absurd z e
def mt_L (n : Nat) : List Nat := if n = 4 then nl_T else nl_F
theorem mt_g : (nl_T.map nl_g = nl_T) ∧ (nl_F.map nl_g = nl_F) := by decide
theorem mt_len {n : Nat} (h : n = 4 ∨ n = 5) : (mt_L n).length = n := by
  rcases h with h | h <;> rw [h] <;> rfl
section MTR
variable {h : gk_H} {S : gv_S} {f : Nat}
theorem m_great (c : Nat) (hc : c < 128) (h : gk_H) : f_M_great (gI c) h = some (gI (nl_g c), h) := by
  unfold f_M_great f_M_great_b19 f_M_great_b20 nl_g
  by_cases e1 : c < 97
  · have e2 : ¬ (97 ≤ c ∧ c ≤ 122) := by omega
    simp (disch := (first | omega | assumption | exact fd_0_n | exact fd_53_n | exact fd_m53_n)) only [↓gg_30_0, ↓gs_30_0, ↓gg_30_1, ↓gs_30_1, ↓gg_30_3, ↓gs_30_3, ↓gg_30_11, ↓gs_30_11, ↓gg_30_12, ↓gs_30_12, ↓gg_30_16, ↓gs_30_16, ↓gg_30_17, ↓gs_30_17, ↓gg_30_18, ↓gs_30_18, ↓gg_30_19, ↓gs_30_19, ↓gg_30_20, ↓gs_30_20, ↓gg_30_21, ↓gs_30_21, ↓gg_30_22, ↓gs_30_22, ↓gg_30_23, ↓gs_30_23, ↓gg_30_24, ↓gs_30_24, ↓gr_30_2, ↓gr_30_4, ↓gr_30_5, ↓gr_30_6, ↓gr_30_7, ↓gr_30_8, ↓gr_30_9, ↓gr_30_10, ↓gr_30_13, ↓gr_30_14, ↓gr_30_15, ↓gc_30, ↓ga_31, ↓gt_31, ↓gl_31, ↓ga_32, ↓gt_32, ↓gl_32, ↓ga_33, ↓gt_33, ↓gl_33, ↓ga_34, ↓gt_34, ↓gl_34, ↓ga_35, ↓gt_35, ↓gl_35, ↓ga_36, ↓gt_36, ↓gl_36, ↓ga_37, ↓gt_37, ↓gl_37, ↓ga_38, ↓gt_38, ↓gl_38, ↓ga_39, ↓gt_39, ↓gl_39, ↓ga_40, ↓gt_40, ↓gl_40, ↓ga_41, ↓gt_41, ↓gl_41, ↓gk_let_eq, ↓gk_ca_some, ↓Option.bind_some, gIl_0, gIl_1, gIl_2, gIl_3, gIl_4, gIl_5, gIl_6, gIl_7, gIl_8, gIl_9, gIl_10, gIl_11, gIl_12, gIl_13, gIl_14, gIl_15, gIl_16, gIl_17, gIl_18, gIl_19, gIl_20, gIl_21, gIl_22, gIl_23, gIl_24, gIl_25, gIl_26, gIl_27, gIl_28, gIl_29, gIl_30, gIl_31, gIl_32, gIl_33, gIl_34, gIl_35, gIl_36, gIl_37, gIl_38, gIl_39, gIl_40, gIl_41, gIl_42, gIl_43, gIl_44, gIl_45, gIl_46, gIl_47, gIl_48, gIl_49, gIl_50, gIl_51, gIl_52, gIl_53, gIl_54, gIl_55, gIl_56, gIl_57, gIl_58, gIl_59, gIl_60, gIl_61, gIl_62, gIl_63, gIl_64, gIl_65, gIl_66, gIl_67, gIl_68, gIl_69, gIl_70, gIl_71, gIl_72, gIl_73, gIl_74, gIl_75, gIl_76, gIl_77, gIl_78, gIl_79, gIl_80, gIl_81, gIl_82, gIl_83, gIl_84, gIl_85, gIl_86, gIl_87, gIl_88, gIl_89, gIl_90, gIl_91, gIl_92, gIl_97, gIl_99, gIl_100, gIl_122, gIl_126, gIl_255, gIl_256, gIl_365, gIl_400, gIl_460, gIl_1900, gIl_3600, gIl_4096, gIl_32767, gIl_65536, gIl_86400, gI_add, gI_mul, gI_sub, ite_le, ite_lt, ite_eq, gI_le, gI_lt, gI_eq, gu_I1, gu_I2, gu_I3, gu_I4, gu_D1, gu_D2, gu_D3, gu_D4, fj_lt, fj_le, fj_gt, fj_ge, fj_eq, ju_lt, ju_le, ju_gt, ju_ge, ju_eq, if_true, if_false, e1, e2]
  · by_cases e3 : 122 < c
    · have e2 : ¬ (97 ≤ c ∧ c ≤ 122) := by omega
      simp (disch := (first | omega | assumption | exact fd_0_n | exact fd_53_n | exact fd_m53_n)) only [↓gg_30_0, ↓gs_30_0, ↓gg_30_1, ↓gs_30_1, ↓gg_30_3, ↓gs_30_3, ↓gg_30_11, ↓gs_30_11, ↓gg_30_12, ↓gs_30_12, ↓gg_30_16, ↓gs_30_16, ↓gg_30_17, ↓gs_30_17, ↓gg_30_18, ↓gs_30_18, ↓gg_30_19, ↓gs_30_19, ↓gg_30_20, ↓gs_30_20, ↓gg_30_21, ↓gs_30_21, ↓gg_30_22, ↓gs_30_22, ↓gg_30_23, ↓gs_30_23, ↓gg_30_24, ↓gs_30_24, ↓gr_30_2, ↓gr_30_4, ↓gr_30_5, ↓gr_30_6, ↓gr_30_7, ↓gr_30_8, ↓gr_30_9, ↓gr_30_10, ↓gr_30_13, ↓gr_30_14, ↓gr_30_15, ↓gc_30, ↓ga_31, ↓gt_31, ↓gl_31, ↓ga_32, ↓gt_32, ↓gl_32, ↓ga_33, ↓gt_33, ↓gl_33, ↓ga_34, ↓gt_34, ↓gl_34, ↓ga_35, ↓gt_35, ↓gl_35, ↓ga_36, ↓gt_36, ↓gl_36, ↓ga_37, ↓gt_37, ↓gl_37, ↓ga_38, ↓gt_38, ↓gl_38, ↓ga_39, ↓gt_39, ↓gl_39, ↓ga_40, ↓gt_40, ↓gl_40, ↓ga_41, ↓gt_41, ↓gl_41, ↓gk_let_eq, ↓gk_ca_some, ↓Option.bind_some, gIl_0, gIl_1, gIl_2, gIl_3, gIl_4, gIl_5, gIl_6, gIl_7, gIl_8, gIl_9, gIl_10, gIl_11, gIl_12, gIl_13, gIl_14, gIl_15, gIl_16, gIl_17, gIl_18, gIl_19, gIl_20, gIl_21, gIl_22, gIl_23, gIl_24, gIl_25, gIl_26, gIl_27, gIl_28, gIl_29, gIl_30, gIl_31, gIl_32, gIl_33, gIl_34, gIl_35, gIl_36, gIl_37, gIl_38, gIl_39, gIl_40, gIl_41, gIl_42, gIl_43, gIl_44, gIl_45, gIl_46, gIl_47, gIl_48, gIl_49, gIl_50, gIl_51, gIl_52, gIl_53, gIl_54, gIl_55, gIl_56, gIl_57, gIl_58, gIl_59, gIl_60, gIl_61, gIl_62, gIl_63, gIl_64, gIl_65, gIl_66, gIl_67, gIl_68, gIl_69, gIl_70, gIl_71, gIl_72, gIl_73, gIl_74, gIl_75, gIl_76, gIl_77, gIl_78, gIl_79, gIl_80, gIl_81, gIl_82, gIl_83, gIl_84, gIl_85, gIl_86, gIl_87, gIl_88, gIl_89, gIl_90, gIl_91, gIl_92, gIl_97, gIl_99, gIl_100, gIl_122, gIl_126, gIl_255, gIl_256, gIl_365, gIl_400, gIl_460, gIl_1900, gIl_3600, gIl_4096, gIl_32767, gIl_65536, gIl_86400, gI_add, gI_mul, gI_sub, ite_le, ite_lt, ite_eq, gI_le, gI_lt, gI_eq, gu_I1, gu_I2, gu_I3, gu_I4, gu_D1, gu_D2, gu_D3, gu_D4, fj_lt, fj_le, fj_gt, fj_ge, fj_eq, ju_lt, ju_le, ju_gt, ju_ge, ju_eq, if_true, if_false, e1, e2, e3]
    · have e2 : 97 ≤ c ∧ c ≤ 122 := by omega
      simp (disch := (first | omega | assumption | exact fd_0_n | exact fd_53_n | exact fd_m53_n)) only [↓gg_30_0, ↓gs_30_0, ↓gg_30_1, ↓gs_30_1, ↓gg_30_3, ↓gs_30_3, ↓gg_30_11, ↓gs_30_11, ↓gg_30_12, ↓gs_30_12, ↓gg_30_16, ↓gs_30_16, ↓gg_30_17, ↓gs_30_17, ↓gg_30_18, ↓gs_30_18, ↓gg_30_19, ↓gs_30_19, ↓gg_30_20, ↓gs_30_20, ↓gg_30_21, ↓gs_30_21, ↓gg_30_22, ↓gs_30_22, ↓gg_30_23, ↓gs_30_23, ↓gg_30_24, ↓gs_30_24, ↓gr_30_2, ↓gr_30_4, ↓gr_30_5, ↓gr_30_6, ↓gr_30_7, ↓gr_30_8, ↓gr_30_9, ↓gr_30_10, ↓gr_30_13, ↓gr_30_14, ↓gr_30_15, ↓gc_30, ↓ga_31, ↓gt_31, ↓gl_31, ↓ga_32, ↓gt_32, ↓gl_32, ↓ga_33, ↓gt_33, ↓gl_33, ↓ga_34, ↓gt_34, ↓gl_34, ↓ga_35, ↓gt_35, ↓gl_35, ↓ga_36, ↓gt_36, ↓gl_36, ↓ga_37, ↓gt_37, ↓gl_37, ↓ga_38, ↓gt_38, ↓gl_38, ↓ga_39, ↓gt_39, ↓gl_39, ↓ga_40, ↓gt_40, ↓gl_40, ↓ga_41, ↓gt_41, ↓gl_41, ↓gk_let_eq, ↓gk_ca_some, ↓Option.bind_some, gIl_0, gIl_1, gIl_2, gIl_3, gIl_4, gIl_5, gIl_6, gIl_7, gIl_8, gIl_9, gIl_10, gIl_11, gIl_12, gIl_13, gIl_14, gIl_15, gIl_16, gIl_17, gIl_18, gIl_19, gIl_20, gIl_21, gIl_22, gIl_23, gIl_24, gIl_25, gIl_26, gIl_27, gIl_28, gIl_29, gIl_30, gIl_31, gIl_32, gIl_33, gIl_34, gIl_35, gIl_36, gIl_37, gIl_38, gIl_39, gIl_40, gIl_41, gIl_42, gIl_43, gIl_44, gIl_45, gIl_46, gIl_47, gIl_48, gIl_49, gIl_50, gIl_51, gIl_52, gIl_53, gIl_54, gIl_55, gIl_56, gIl_57, gIl_58, gIl_59, gIl_60, gIl_61, gIl_62, gIl_63, gIl_64, gIl_65, gIl_66, gIl_67, gIl_68, gIl_69, gIl_70, gIl_71, gIl_72, gIl_73, gIl_74, gIl_75, gIl_76, gIl_77, gIl_78, gIl_79, gIl_80, gIl_81, gIl_82, gIl_83, gIl_84, gIl_85, gIl_86, gIl_87, gIl_88, gIl_89, gIl_90, gIl_91, gIl_92, gIl_97, gIl_99, gIl_100, gIl_122, gIl_126, gIl_255, gIl_256, gIl_365, gIl_400, gIl_460, gIl_1900, gIl_3600, gIl_4096, gIl_32767, gIl_65536, gIl_86400, gI_add, gI_mul, gI_sub, ite_le, ite_lt, ite_eq, gI_le, gI_lt, gI_eq, gu_I1, gu_I2, gu_I3, gu_I4, gu_D1, gu_D2, gu_D3, gu_D4, fj_lt, fj_le, fj_gt, fj_ge, fj_eq, ju_lt, ju_le, ju_gt, ju_ge, ju_eq, if_true, if_false, e1, e2.1, e2.2, e3, and_self]
theorem m_tl4 : ∀ k : Fin 4, Int64.toInt32 (((1414681925 : Int64) >>> (Int32.toInt64 ((8 : Int32) * (((4 : Int32) - (1 : Int32)) - gI k.val)) &&& 63)) &&& (255 : Int64)) = gI (nl_T.getD k.val 0) := by decide +kernel
theorem m_tl5 : ∀ k : Fin 5, Int64.toInt32 (((301743231813 : Int64) >>> (Int32.toInt64 ((8 : Int32) * (((5 : Int32) - (1 : Int32)) - gI k.val)) &&& 63)) &&& (255 : Int64)) = gI (nl_F.getD k.val 0) := by decide +kernel
theorem m_tl (n k : Nat) (hn : n = 4 ∨ n = 5) (hk : k < n) (h : gk_H) : f_M_truthLetter (gI n) (gI k) h = some (gI ((mt_L n).getD k 0), h) := by
  unfold f_M_truthLetter f_M_truthLetter_b14
  rcases hn with rfl | rfl
  · rw [if_pos (by decide)]
    exact congrArg (fun x => some (x, h)) (m_tl4 ⟨k, hk⟩)
  · rw [if_neg (by decide)]
    exact congrArg (fun x => some (x, h)) (m_tl5 ⟨k, hk⟩)
theorem m_tloop (b71 : Option Nat → Int32 → Int32 → gk_H → Option (Int32 × gk_H)) {c n : Nat} {l : List Nat} (hn : n = 4 ∨ n = 5) (hc : c < 272) (hl : l.length = n) (hch : ∀ k, k < l.length → S.1 38 (256 * c + k) = gI (l.getD k 0)) (h128 : ∀ x ∈ l, x < 128) : ∀ (m k fu : Nat) (is : Bool), k + m = n → m < fu → (is = true ↔ (l.take k).map nl_g = (mt_L n).take k) → f_M_truthOf_b96 b71 fu (some 30) (gI c) (gI n) (gB is) (gI k) (gv_ov h S) = f_M_truthOf_b143 b71 (some 30) (gI c) (gI n) (gB (decide (l.map nl_g = mt_L n))) (gv_ov h S) := by
  have hlen := mt_len hn
  intro m
  induction m with
  | zero =>
    intro k fu is hk hf hi
    obtain ⟨fu, rfl⟩ : ∃ f, fu = f + 1 := ⟨fu - 1, by omega⟩
    rw [f_M_truthOf_b96]
    dsimp only
    rw [ite_le _ _ _ _ (by omega) (by omega), if_pos (by omega)]
    rw [List.take_of_length_le (by omega), List.take_of_length_le (by omega)] at hi
    congr 2
    rw [Bool.eq_iff_iff, hi, decide_eq_true_iff]
  | succ m ih =>
    intro k fu is hk hf hi
    obtain ⟨fu, rfl⟩ : ∃ f, fu = f + 1 := ⟨fu - 1, by omega⟩
    rw [f_M_truthOf_b96]
    dsimp only
    have hn5 : n ≤ 5 := by omega
    rw [ite_le _ _ _ _ (by omega) (by omega), if_neg (by omega), ite_B]
    have tk : ∀ (L : List Nat), k < L.length → L.take (k + 1) = L.take k ++ [L.getD k 0] := fun L hL => by
      rw [List.take_succ, List.getElem?_eq_getElem hL, List.getD_eq_getElem?_getD, List.getElem?_eq_getElem hL]
      rfl
    cases is
    · rw [if_neg (by decide)]
      congr 2
      have : ¬ (l.map nl_g = mt_L n) := fun z => by
        have hz : false = true := hi.mpr (by rw [← z, List.map_take])
        cases hz
      rw [decide_eq_false this]
    · have hx : l.getD k 0 ∈ l := by
        rw [List.getD_eq_getElem?_getD, List.getElem?_eq_getElem (by omega)]
        exact List.getElem_mem _
      rw [if_pos rfl]
      unfold f_M_truthOf_b136
      have hg := m_great (l.getD k 0) (h128 _ hx) (gv_ov h S)
      have ht := m_tl n k hn (by omega) (gv_ov h S)
      have hTb : (mt_L n).getD k 0 < 128 := by
        rcases hn with rfl | rfl
        · have : ∀ k : Fin 4, nl_T.getD k.val 0 < 128 := by decide
          exact this ⟨k, by omega⟩
        · have : ∀ k : Fin 5, nl_F.getD k.val 0 < 128 := by decide
          exact this ⟨k, by omega⟩
      have hgb := nl_g_lt (h128 _ hx)
      simp (disch := (first | omega | assumption | exact fd_0_n | exact fd_53_n | exact fd_m53_n)) only [↓gg_30_0, ↓gs_30_0, ↓gg_30_1, ↓gs_30_1, ↓gg_30_3, ↓gs_30_3, ↓gg_30_11, ↓gs_30_11, ↓gg_30_12, ↓gs_30_12, ↓gg_30_16, ↓gs_30_16, ↓gg_30_17, ↓gs_30_17, ↓gg_30_18, ↓gs_30_18, ↓gg_30_19, ↓gs_30_19, ↓gg_30_20, ↓gs_30_20, ↓gg_30_21, ↓gs_30_21, ↓gg_30_22, ↓gs_30_22, ↓gg_30_23, ↓gs_30_23, ↓gg_30_24, ↓gs_30_24, ↓gr_30_2, ↓gr_30_4, ↓gr_30_5, ↓gr_30_6, ↓gr_30_7, ↓gr_30_8, ↓gr_30_9, ↓gr_30_10, ↓gr_30_13, ↓gr_30_14, ↓gr_30_15, ↓gc_30, ↓ga_31, ↓gt_31, ↓gl_31, ↓ga_32, ↓gt_32, ↓gl_32, ↓ga_33, ↓gt_33, ↓gl_33, ↓ga_34, ↓gt_34, ↓gl_34, ↓ga_35, ↓gt_35, ↓gl_35, ↓ga_36, ↓gt_36, ↓gl_36, ↓ga_37, ↓gt_37, ↓gl_37, ↓ga_38, ↓gt_38, ↓gl_38, ↓ga_39, ↓gt_39, ↓gl_39, ↓ga_40, ↓gt_40, ↓gl_40, ↓ga_41, ↓gt_41, ↓gl_41, ↓gk_let_eq, ↓gk_ca_some, ↓Option.bind_some, gIl_0, gIl_1, gIl_2, gIl_3, gIl_4, gIl_5, gIl_6, gIl_7, gIl_8, gIl_9, gIl_10, gIl_11, gIl_12, gIl_13, gIl_14, gIl_15, gIl_16, gIl_17, gIl_18, gIl_19, gIl_20, gIl_21, gIl_22, gIl_23, gIl_24, gIl_25, gIl_26, gIl_27, gIl_28, gIl_29, gIl_30, gIl_31, gIl_32, gIl_33, gIl_34, gIl_35, gIl_36, gIl_37, gIl_38, gIl_39, gIl_40, gIl_41, gIl_42, gIl_43, gIl_44, gIl_45, gIl_46, gIl_47, gIl_48, gIl_49, gIl_50, gIl_51, gIl_52, gIl_53, gIl_54, gIl_55, gIl_56, gIl_57, gIl_58, gIl_59, gIl_60, gIl_61, gIl_62, gIl_63, gIl_64, gIl_65, gIl_66, gIl_67, gIl_68, gIl_69, gIl_70, gIl_71, gIl_72, gIl_73, gIl_74, gIl_75, gIl_76, gIl_77, gIl_78, gIl_79, gIl_80, gIl_81, gIl_82, gIl_83, gIl_84, gIl_85, gIl_86, gIl_87, gIl_88, gIl_89, gIl_90, gIl_91, gIl_92, gIl_97, gIl_99, gIl_100, gIl_122, gIl_126, gIl_255, gIl_256, gIl_365, gIl_400, gIl_460, gIl_1900, gIl_3600, gIl_4096, gIl_32767, gIl_65536, gIl_86400, gI_add, gI_mul, gI_sub, ite_le, ite_lt, ite_eq, gI_le, gI_lt, gI_eq, gu_I1, gu_I2, gu_I3, gu_I4, gu_D1, gu_D2, gu_D3, gu_D4, fj_lt, fj_le, fj_gt, fj_ge, fj_eq, ju_lt, ju_le, ju_gt, ju_ge, ju_eq, if_true, if_false, hch k (by omega), hg, ht]
      have hstep : ∀ e : Bool, (e = true ↔ nl_g (l.getD k 0) = (mt_L n).getD k 0) → (e = true ↔ (l.take (k + 1)).map nl_g = (mt_L n).take (k + 1)) := by
        intro e he
        rw [tk l (by omega), tk _ (by omega), List.map_append, hi.mp rfl, he]
        exact ⟨fun z => by rw [List.map_singleton, z], fun z => by
          have := List.append_cancel_left z
          rw [List.map_singleton] at this
          injection this⟩
      by_cases z : nl_g (l.getD k 0) = (mt_L n).getD k 0
      · rw [if_pos z]
        exact ih (k + 1) fu true (by omega) (by omega) (hstep true ⟨fun _ => z, fun _ => rfl⟩)
      · rw [if_neg z]
        exact ih (k + 1) fu false (by omega) (by omega) (hstep false ⟨fun q => (by cases q), fun q => absurd q z⟩)
theorem m_tone (b71 : Option Nat → Int32 → Int32 → gk_H → Option (Int32 × gk_H)) {c n : Nat} {l : List Nat} (hn : n = 4 ∨ n = 5) (hc : c < 272) (hl : l.length ≤ 255) (h37 : S.1 37 c = gI l.length) (hch : ∀ k, k < l.length → S.1 38 (256 * c + k) = gI (l.getD k 0)) (h128 : ∀ x ∈ l, x < 128) : (if gI l.length = gI n then f_M_truthOf_b92 b71 (some 30) (gI c) (gI n) (1 : Int32) (gv_ov h S) else f_M_truthOf_b92 b71 (some 30) (gI c) (gI n) (0 : Int32) (gv_ov h S)) = f_M_truthOf_b143 b71 (some 30) (gI c) (gI n) (gB (decide (l.map nl_g = mt_L n))) (gv_ov h S) := by
  have hlen := mt_len hn
  unfold f_M_truthOf_b92
  rw [ite_eq _ _ _ _ (by omega) (by omega)]
  by_cases z : l.length = n
  · rw [if_pos z]
    exact m_tloop (h := h) (S := S) b71 hn hc z hch h128 n 0 gk_F true (by omega) (by unfold gk_F; omega) ⟨fun _ => rfl, fun _ => rfl⟩
  · rw [if_neg z]
    have hF : gk_F = (gk_F - 1) + 1 := rfl
    rw [hF, f_M_truthOf_b96]
    dsimp only
    rw [gI_0, ite_le _ _ _ _ (by omega) (by decide), if_neg (by omega), if_pos rfl, decide_eq_false]
    · rfl
    · intro q
      have := congrArg List.length q
      rw [List.length_map, hlen] at this
      exact z this
theorem m_truthOf {c : Nat} {x : gp_C} (hm : mc S c x) (hx : gp_okC x) (hc : c < 272) (hb : S.1 30 11 = gI f) (hf : f ≤ 8) : ∃ S', f_M_truthOf (some 30) (gI c) (gv_ov h S) = some (gB (sp_tru x).2, gv_ov h S') ∧ mX mQ S S' ∧ S'.1 30 11 = gI (bl f (sp_tru x).1) := by
  obtain ⟨a1, a2, a3, a4⟩ := hm
  have hl := hx.2.2.2.2.2.2.2.2.1
  have hk4 := hx.1
  have h128 := ok_t128 hx
  unfold f_M_truthOf
  unfold sp_tru
  by_cases e4 : x.1 = 4
  · have hmd : md x = FP.i2d (gI x.2.1) := by unfold md; rw [if_neg (by omega)]
    have hcd := hx.2.2.2.2.2.1 e4
    have n2 : ¬ x.1 = 2 := by omega
    have a1' : (gv_uI S 30 11 (gI (bl f x.2.1))).1 35 c = gI 4 := by rw [gu_I1 _ _ _ _ _ _ (by omega), a1, e4]
    rw [e4] at a1
    unfold f_M_truthOf_b21 f_M_truthOf_b40
    have hz44 : (gI 4 = gI 4) = True := eq_self _
    simp (disch := (first | omega | assumption | exact fd_0_n | exact fd_53_n | exact fd_m53_n)) only [↓gg_30_0, ↓gs_30_0, ↓gg_30_1, ↓gs_30_1, ↓gg_30_3, ↓gs_30_3, ↓gg_30_11, ↓gs_30_11, ↓gg_30_12, ↓gs_30_12, ↓gg_30_16, ↓gs_30_16, ↓gg_30_17, ↓gs_30_17, ↓gg_30_18, ↓gs_30_18, ↓gg_30_19, ↓gs_30_19, ↓gg_30_20, ↓gs_30_20, ↓gg_30_21, ↓gs_30_21, ↓gg_30_22, ↓gs_30_22, ↓gg_30_23, ↓gs_30_23, ↓gg_30_24, ↓gs_30_24, ↓gr_30_2, ↓gr_30_4, ↓gr_30_5, ↓gr_30_6, ↓gr_30_7, ↓gr_30_8, ↓gr_30_9, ↓gr_30_10, ↓gr_30_13, ↓gr_30_14, ↓gr_30_15, ↓gc_30, ↓ga_31, ↓gt_31, ↓gl_31, ↓ga_32, ↓gt_32, ↓gl_32, ↓ga_33, ↓gt_33, ↓gl_33, ↓ga_34, ↓gt_34, ↓gl_34, ↓ga_35, ↓gt_35, ↓gl_35, ↓ga_36, ↓gt_36, ↓gl_36, ↓ga_37, ↓gt_37, ↓gl_37, ↓ga_38, ↓gt_38, ↓gl_38, ↓ga_39, ↓gt_39, ↓gl_39, ↓ga_40, ↓gt_40, ↓gl_40, ↓ga_41, ↓gt_41, ↓gl_41, ↓gk_let_eq, ↓gk_ca_some, ↓Option.bind_some, gIl_0, gIl_1, gIl_2, gIl_3, gIl_4, gIl_5, gIl_6, gIl_7, gIl_8, gIl_9, gIl_10, gIl_11, gIl_12, gIl_13, gIl_14, gIl_15, gIl_16, gIl_17, gIl_18, gIl_19, gIl_20, gIl_21, gIl_22, gIl_23, gIl_24, gIl_25, gIl_26, gIl_27, gIl_28, gIl_29, gIl_30, gIl_31, gIl_32, gIl_33, gIl_34, gIl_35, gIl_36, gIl_37, gIl_38, gIl_39, gIl_40, gIl_41, gIl_42, gIl_43, gIl_44, gIl_45, gIl_46, gIl_47, gIl_48, gIl_49, gIl_50, gIl_51, gIl_52, gIl_53, gIl_54, gIl_55, gIl_56, gIl_57, gIl_58, gIl_59, gIl_60, gIl_61, gIl_62, gIl_63, gIl_64, gIl_65, gIl_66, gIl_67, gIl_68, gIl_69, gIl_70, gIl_71, gIl_72, gIl_73, gIl_74, gIl_75, gIl_76, gIl_77, gIl_78, gIl_79, gIl_80, gIl_81, gIl_82, gIl_83, gIl_84, gIl_85, gIl_86, gIl_87, gIl_88, gIl_89, gIl_90, gIl_91, gIl_92, gIl_97, gIl_99, gIl_100, gIl_122, gIl_126, gIl_255, gIl_256, gIl_365, gIl_400, gIl_460, gIl_1900, gIl_3600, gIl_4096, gIl_32767, gIl_65536, gIl_86400, gI_add, gI_mul, gI_sub, ite_le, ite_lt, ite_eq, gI_le, gI_lt, gI_eq, gu_I1, gu_I2, gu_I3, gu_I4, gu_D1, gu_D2, gu_D3, gu_D4, fj_lt, fj_le, fj_gt, fj_ge, fj_eq, ju_lt, ju_le, ju_gt, ju_ge, ju_eq, if_true, if_false, a1, a1', a2, hmd, d2i_i2d', m_fail f x.2.1 hb hf, hz44, nbI0]
    have e0 : fd_k x.2.2.1 = 0 := by rw [hx.2.2.2.1 (by omega)]; rfl
    rw [if_neg n2]
    refine ⟨gv_uI S 30 11 (gI (bl f x.2.1)), ?_, mX.I _ ⟨rfl, Or.inl rfl⟩, ?_⟩
    · have : decide (fd_k x.2.2.1 ≠ 0 ∨ x.1 = 3 ∧ x.2.1 = 1) = false := decide_eq_false (by omega)
      rw [this]
      rfl
    · rw [gu_I2]
      unfold sp_err
      rw [if_pos e4]
  · by_cases e2 : x.1 = 2
    · unfold f_M_truthOf_b21 f_M_truthOf_b40
      have n24 : ¬ (2 = 4) := by decide
      have n20 : ¬ (2 = 0) := by decide
      rw [e2] at a1
      have hz22 : (gI 2 = gI 2) = True := eq_self _
      simp (disch := (first | omega | assumption | exact fd_0_n | exact fd_53_n | exact fd_m53_n)) only [↓gg_30_0, ↓gs_30_0, ↓gg_30_1, ↓gs_30_1, ↓gg_30_3, ↓gs_30_3, ↓gg_30_11, ↓gs_30_11, ↓gg_30_12, ↓gs_30_12, ↓gg_30_16, ↓gs_30_16, ↓gg_30_17, ↓gs_30_17, ↓gg_30_18, ↓gs_30_18, ↓gg_30_19, ↓gs_30_19, ↓gg_30_20, ↓gs_30_20, ↓gg_30_21, ↓gs_30_21, ↓gg_30_22, ↓gs_30_22, ↓gg_30_23, ↓gs_30_23, ↓gg_30_24, ↓gs_30_24, ↓gr_30_2, ↓gr_30_4, ↓gr_30_5, ↓gr_30_6, ↓gr_30_7, ↓gr_30_8, ↓gr_30_9, ↓gr_30_10, ↓gr_30_13, ↓gr_30_14, ↓gr_30_15, ↓gc_30, ↓ga_31, ↓gt_31, ↓gl_31, ↓ga_32, ↓gt_32, ↓gl_32, ↓ga_33, ↓gt_33, ↓gl_33, ↓ga_34, ↓gt_34, ↓gl_34, ↓ga_35, ↓gt_35, ↓gl_35, ↓ga_36, ↓gt_36, ↓gl_36, ↓ga_37, ↓gt_37, ↓gl_37, ↓ga_38, ↓gt_38, ↓gl_38, ↓ga_39, ↓gt_39, ↓gl_39, ↓ga_40, ↓gt_40, ↓gl_40, ↓ga_41, ↓gt_41, ↓gl_41, ↓gk_let_eq, ↓gk_ca_some, ↓Option.bind_some, gIl_0, gIl_1, gIl_2, gIl_3, gIl_4, gIl_5, gIl_6, gIl_7, gIl_8, gIl_9, gIl_10, gIl_11, gIl_12, gIl_13, gIl_14, gIl_15, gIl_16, gIl_17, gIl_18, gIl_19, gIl_20, gIl_21, gIl_22, gIl_23, gIl_24, gIl_25, gIl_26, gIl_27, gIl_28, gIl_29, gIl_30, gIl_31, gIl_32, gIl_33, gIl_34, gIl_35, gIl_36, gIl_37, gIl_38, gIl_39, gIl_40, gIl_41, gIl_42, gIl_43, gIl_44, gIl_45, gIl_46, gIl_47, gIl_48, gIl_49, gIl_50, gIl_51, gIl_52, gIl_53, gIl_54, gIl_55, gIl_56, gIl_57, gIl_58, gIl_59, gIl_60, gIl_61, gIl_62, gIl_63, gIl_64, gIl_65, gIl_66, gIl_67, gIl_68, gIl_69, gIl_70, gIl_71, gIl_72, gIl_73, gIl_74, gIl_75, gIl_76, gIl_77, gIl_78, gIl_79, gIl_80, gIl_81, gIl_82, gIl_83, gIl_84, gIl_85, gIl_86, gIl_87, gIl_88, gIl_89, gIl_90, gIl_91, gIl_92, gIl_97, gIl_99, gIl_100, gIl_122, gIl_126, gIl_255, gIl_256, gIl_365, gIl_400, gIl_460, gIl_1900, gIl_3600, gIl_4096, gIl_32767, gIl_65536, gIl_86400, gI_add, gI_mul, gI_sub, ite_le, ite_lt, ite_eq, gI_le, gI_lt, gI_eq, gu_I1, gu_I2, gu_I3, gu_I4, gu_D1, gu_D2, gu_D3, gu_D4, fj_lt, fj_le, fj_gt, fj_ge, fj_eq, ju_lt, ju_le, ju_gt, ju_ge, ju_eq, if_true, if_false, a1, hz22, n24, n20]
      rw [if_pos e2]
      have hF : gk_F = (gk_F - 3) + 1 + 1 + 1 := rfl
      rw [hF, f_M_truthOf_b71]
      dsimp only
      have h64 : ¬ (6 ≤ 4) := by decide
      simp (disch := (first | omega | assumption | exact fd_0_n | exact fd_53_n | exact fd_m53_n)) only [↓gg_30_0, ↓gs_30_0, ↓gg_30_1, ↓gs_30_1, ↓gg_30_3, ↓gs_30_3, ↓gg_30_11, ↓gs_30_11, ↓gg_30_12, ↓gs_30_12, ↓gg_30_16, ↓gs_30_16, ↓gg_30_17, ↓gs_30_17, ↓gg_30_18, ↓gs_30_18, ↓gg_30_19, ↓gs_30_19, ↓gg_30_20, ↓gs_30_20, ↓gg_30_21, ↓gs_30_21, ↓gg_30_22, ↓gs_30_22, ↓gg_30_23, ↓gs_30_23, ↓gg_30_24, ↓gs_30_24, ↓gr_30_2, ↓gr_30_4, ↓gr_30_5, ↓gr_30_6, ↓gr_30_7, ↓gr_30_8, ↓gr_30_9, ↓gr_30_10, ↓gr_30_13, ↓gr_30_14, ↓gr_30_15, ↓gc_30, ↓ga_31, ↓gt_31, ↓gl_31, ↓ga_32, ↓gt_32, ↓gl_32, ↓ga_33, ↓gt_33, ↓gl_33, ↓ga_34, ↓gt_34, ↓gl_34, ↓ga_35, ↓gt_35, ↓gl_35, ↓ga_36, ↓gt_36, ↓gl_36, ↓ga_37, ↓gt_37, ↓gl_37, ↓ga_38, ↓gt_38, ↓gl_38, ↓ga_39, ↓gt_39, ↓gl_39, ↓ga_40, ↓gt_40, ↓gl_40, ↓ga_41, ↓gt_41, ↓gl_41, ↓gk_let_eq, ↓gk_ca_some, ↓Option.bind_some, gIl_0, gIl_1, gIl_2, gIl_3, gIl_4, gIl_5, gIl_6, gIl_7, gIl_8, gIl_9, gIl_10, gIl_11, gIl_12, gIl_13, gIl_14, gIl_15, gIl_16, gIl_17, gIl_18, gIl_19, gIl_20, gIl_21, gIl_22, gIl_23, gIl_24, gIl_25, gIl_26, gIl_27, gIl_28, gIl_29, gIl_30, gIl_31, gIl_32, gIl_33, gIl_34, gIl_35, gIl_36, gIl_37, gIl_38, gIl_39, gIl_40, gIl_41, gIl_42, gIl_43, gIl_44, gIl_45, gIl_46, gIl_47, gIl_48, gIl_49, gIl_50, gIl_51, gIl_52, gIl_53, gIl_54, gIl_55, gIl_56, gIl_57, gIl_58, gIl_59, gIl_60, gIl_61, gIl_62, gIl_63, gIl_64, gIl_65, gIl_66, gIl_67, gIl_68, gIl_69, gIl_70, gIl_71, gIl_72, gIl_73, gIl_74, gIl_75, gIl_76, gIl_77, gIl_78, gIl_79, gIl_80, gIl_81, gIl_82, gIl_83, gIl_84, gIl_85, gIl_86, gIl_87, gIl_88, gIl_89, gIl_90, gIl_91, gIl_92, gIl_97, gIl_99, gIl_100, gIl_122, gIl_126, gIl_255, gIl_256, gIl_365, gIl_400, gIl_460, gIl_1900, gIl_3600, gIl_4096, gIl_32767, gIl_65536, gIl_86400, ite_le, a3, h64, if_false]
      have t4 := m_tone (h := h) (S := S) (f_M_truthOf_b71 ((gk_F - 3) + 1 + 1)) (Or.inl rfl) hc hl a3 a4 h128
      rw [← gIl_1, ← gIl_0]
      rw [t4]
      unfold f_M_truthOf_b143 f_M_truthOf_b157
      have hT : nl_ord x.2.2.2 nl_T = 0 ↔ x.2.2.2.map nl_g = nl_T := by rw [nl_ord_0, mt_g.1]
      have hFF : nl_ord x.2.2.2 nl_F = 0 ↔ x.2.2.2.map nl_g = nl_F := by rw [nl_ord_0, mt_g.2]
      rw [ite_B]
      have e4L : mt_L 4 = nl_T := rfl
      have e5L : mt_L 5 = nl_F := rfl
      rw [e4L]
      by_cases z : x.2.2.2.map nl_g = nl_T
      · rw [if_pos (decide_eq_true z), if_pos (hT.mpr z), gI_lit 4, if_pos rfl, nb1]
        refine ⟨S, rfl, mX.refl _ _, ?_⟩
        rw [bl_0]
        exact hb
      · rw [if_neg (by rw [decide_eq_true_iff]; exact z), if_neg (fun q => z (hT.mp q)), gI_1, gI_add, gk_let_eq]
        rw [f_M_truthOf_b71]
        dsimp only
        have h65 : ¬ (6 ≤ 4 + 1) := by decide
        simp (disch := (first | omega | assumption | exact fd_0_n | exact fd_53_n | exact fd_m53_n)) only [↓gg_30_0, ↓gs_30_0, ↓gg_30_1, ↓gs_30_1, ↓gg_30_3, ↓gs_30_3, ↓gg_30_11, ↓gs_30_11, ↓gg_30_12, ↓gs_30_12, ↓gg_30_16, ↓gs_30_16, ↓gg_30_17, ↓gs_30_17, ↓gg_30_18, ↓gs_30_18, ↓gg_30_19, ↓gs_30_19, ↓gg_30_20, ↓gs_30_20, ↓gg_30_21, ↓gs_30_21, ↓gg_30_22, ↓gs_30_22, ↓gg_30_23, ↓gs_30_23, ↓gg_30_24, ↓gs_30_24, ↓gr_30_2, ↓gr_30_4, ↓gr_30_5, ↓gr_30_6, ↓gr_30_7, ↓gr_30_8, ↓gr_30_9, ↓gr_30_10, ↓gr_30_13, ↓gr_30_14, ↓gr_30_15, ↓gc_30, ↓ga_31, ↓gt_31, ↓gl_31, ↓ga_32, ↓gt_32, ↓gl_32, ↓ga_33, ↓gt_33, ↓gl_33, ↓ga_34, ↓gt_34, ↓gl_34, ↓ga_35, ↓gt_35, ↓gl_35, ↓ga_36, ↓gt_36, ↓gl_36, ↓ga_37, ↓gt_37, ↓gl_37, ↓ga_38, ↓gt_38, ↓gl_38, ↓ga_39, ↓gt_39, ↓gl_39, ↓ga_40, ↓gt_40, ↓gl_40, ↓ga_41, ↓gt_41, ↓gl_41, ↓gk_let_eq, ↓gk_ca_some, ↓Option.bind_some, gIl_0, gIl_1, gIl_2, gIl_3, gIl_4, gIl_5, gIl_6, gIl_7, gIl_8, gIl_9, gIl_10, gIl_11, gIl_12, gIl_13, gIl_14, gIl_15, gIl_16, gIl_17, gIl_18, gIl_19, gIl_20, gIl_21, gIl_22, gIl_23, gIl_24, gIl_25, gIl_26, gIl_27, gIl_28, gIl_29, gIl_30, gIl_31, gIl_32, gIl_33, gIl_34, gIl_35, gIl_36, gIl_37, gIl_38, gIl_39, gIl_40, gIl_41, gIl_42, gIl_43, gIl_44, gIl_45, gIl_46, gIl_47, gIl_48, gIl_49, gIl_50, gIl_51, gIl_52, gIl_53, gIl_54, gIl_55, gIl_56, gIl_57, gIl_58, gIl_59, gIl_60, gIl_61, gIl_62, gIl_63, gIl_64, gIl_65, gIl_66, gIl_67, gIl_68, gIl_69, gIl_70, gIl_71, gIl_72, gIl_73, gIl_74, gIl_75, gIl_76, gIl_77, gIl_78, gIl_79, gIl_80, gIl_81, gIl_82, gIl_83, gIl_84, gIl_85, gIl_86, gIl_87, gIl_88, gIl_89, gIl_90, gIl_91, gIl_92, gIl_97, gIl_99, gIl_100, gIl_122, gIl_126, gIl_255, gIl_256, gIl_365, gIl_400, gIl_460, gIl_1900, gIl_3600, gIl_4096, gIl_32767, gIl_65536, gIl_86400, ite_le, a3, h65, if_false]
        have t5 := m_tone (h := h) (S := S) (f_M_truthOf_b71 ((gk_F - 3) + 1)) (Or.inr rfl) hc hl a3 a4 h128
        rw [← gIl_1, ← gIl_0]
        rw [t5]
        unfold f_M_truthOf_b143 f_M_truthOf_b157
        rw [ite_B, e5L]
        by_cases z5 : x.2.2.2.map nl_g = nl_F
        · rw [if_pos (decide_eq_true z5), if_pos (hFF.mpr z5), gI_lit 4, if_neg (by decide), nb0]
          refine ⟨S, rfl, mX.refl _ _, ?_⟩
          rw [bl_0]
          exact hb
        · rw [if_neg (by rw [decide_eq_true_iff]; exact z5), if_neg (fun q => z5 (hFF.mp q)), gI_1, gI_add, gk_let_eq, f_M_truthOf_b71]
          dsimp only
          rw [gI_lit 6, ite_le _ _ _ _ (by decide) (by decide), if_pos (by decide), gc_30, gI_lit 3, m_fail f 3 hb hf, gk_ca_some, nb0]
          exact ⟨_, rfl, mX.I _ ⟨rfl, Or.inl rfl⟩, gu_I2 _ _ _ _⟩
    · have hse : sp_err x = 0 := by unfold sp_err; rw [if_neg e4]
      rw [if_neg e2, hse, bl_0]
      unfold f_M_truthOf_b21 f_M_truthOf_b40 f_M_truthOf_b68
      by_cases e0 : x.1 = 0
      · have n04 : ¬ (0 = 4) := by decide
        have n24 : ¬ (0 = 2) := by decide
        have k0 : fd_k x.2.2.1 = 0 := by rw [hx.2.2.2.1 (by omega)]; rfl
        rw [e0] at a1
        have hz00 : (gI 0 = gI 0) = True := eq_self _
        simp (disch := (first | omega | assumption | exact fd_0_n | exact fd_53_n | exact fd_m53_n)) only [↓gg_30_0, ↓gs_30_0, ↓gg_30_1, ↓gs_30_1, ↓gg_30_3, ↓gs_30_3, ↓gg_30_11, ↓gs_30_11, ↓gg_30_12, ↓gs_30_12, ↓gg_30_16, ↓gs_30_16, ↓gg_30_17, ↓gs_30_17, ↓gg_30_18, ↓gs_30_18, ↓gg_30_19, ↓gs_30_19, ↓gg_30_20, ↓gs_30_20, ↓gg_30_21, ↓gs_30_21, ↓gg_30_22, ↓gs_30_22, ↓gg_30_23, ↓gs_30_23, ↓gg_30_24, ↓gs_30_24, ↓gr_30_2, ↓gr_30_4, ↓gr_30_5, ↓gr_30_6, ↓gr_30_7, ↓gr_30_8, ↓gr_30_9, ↓gr_30_10, ↓gr_30_13, ↓gr_30_14, ↓gr_30_15, ↓gc_30, ↓ga_31, ↓gt_31, ↓gl_31, ↓ga_32, ↓gt_32, ↓gl_32, ↓ga_33, ↓gt_33, ↓gl_33, ↓ga_34, ↓gt_34, ↓gl_34, ↓ga_35, ↓gt_35, ↓gl_35, ↓ga_36, ↓gt_36, ↓gl_36, ↓ga_37, ↓gt_37, ↓gl_37, ↓ga_38, ↓gt_38, ↓gl_38, ↓ga_39, ↓gt_39, ↓gl_39, ↓ga_40, ↓gt_40, ↓gl_40, ↓ga_41, ↓gt_41, ↓gl_41, ↓gk_let_eq, ↓gk_ca_some, ↓Option.bind_some, gIl_0, gIl_1, gIl_2, gIl_3, gIl_4, gIl_5, gIl_6, gIl_7, gIl_8, gIl_9, gIl_10, gIl_11, gIl_12, gIl_13, gIl_14, gIl_15, gIl_16, gIl_17, gIl_18, gIl_19, gIl_20, gIl_21, gIl_22, gIl_23, gIl_24, gIl_25, gIl_26, gIl_27, gIl_28, gIl_29, gIl_30, gIl_31, gIl_32, gIl_33, gIl_34, gIl_35, gIl_36, gIl_37, gIl_38, gIl_39, gIl_40, gIl_41, gIl_42, gIl_43, gIl_44, gIl_45, gIl_46, gIl_47, gIl_48, gIl_49, gIl_50, gIl_51, gIl_52, gIl_53, gIl_54, gIl_55, gIl_56, gIl_57, gIl_58, gIl_59, gIl_60, gIl_61, gIl_62, gIl_63, gIl_64, gIl_65, gIl_66, gIl_67, gIl_68, gIl_69, gIl_70, gIl_71, gIl_72, gIl_73, gIl_74, gIl_75, gIl_76, gIl_77, gIl_78, gIl_79, gIl_80, gIl_81, gIl_82, gIl_83, gIl_84, gIl_85, gIl_86, gIl_87, gIl_88, gIl_89, gIl_90, gIl_91, gIl_92, gIl_97, gIl_99, gIl_100, gIl_122, gIl_126, gIl_255, gIl_256, gIl_365, gIl_400, gIl_460, gIl_1900, gIl_3600, gIl_4096, gIl_32767, gIl_65536, gIl_86400, gI_add, gI_mul, gI_sub, ite_le, ite_lt, ite_eq, gI_le, gI_lt, gI_eq, gu_I1, gu_I2, gu_I3, gu_I4, gu_D1, gu_D2, gu_D3, gu_D4, fj_lt, fj_le, fj_gt, fj_ge, fj_eq, ju_lt, ju_le, ju_gt, ju_ge, ju_eq, if_true, if_false, a1, n04, hz00, nbI0]
        refine ⟨S, ?_, mX.refl _ _, hb⟩
        have : decide (fd_k x.2.2.1 ≠ 0 ∨ x.1 = 3 ∧ x.2.1 = 1) = false := decide_eq_false (by omega)
        rw [this]
        rfl
      · have hmn := md_n hx
        simp (disch := (first | omega | assumption | exact fd_0_n | exact fd_53_n | exact fd_m53_n)) only [↓gg_30_0, ↓gs_30_0, ↓gg_30_1, ↓gs_30_1, ↓gg_30_3, ↓gs_30_3, ↓gg_30_11, ↓gs_30_11, ↓gg_30_12, ↓gs_30_12, ↓gg_30_16, ↓gs_30_16, ↓gg_30_17, ↓gs_30_17, ↓gg_30_18, ↓gs_30_18, ↓gg_30_19, ↓gs_30_19, ↓gg_30_20, ↓gs_30_20, ↓gg_30_21, ↓gs_30_21, ↓gg_30_22, ↓gs_30_22, ↓gg_30_23, ↓gs_30_23, ↓gg_30_24, ↓gs_30_24, ↓gr_30_2, ↓gr_30_4, ↓gr_30_5, ↓gr_30_6, ↓gr_30_7, ↓gr_30_8, ↓gr_30_9, ↓gr_30_10, ↓gr_30_13, ↓gr_30_14, ↓gr_30_15, ↓gc_30, ↓ga_31, ↓gt_31, ↓gl_31, ↓ga_32, ↓gt_32, ↓gl_32, ↓ga_33, ↓gt_33, ↓gl_33, ↓ga_34, ↓gt_34, ↓gl_34, ↓ga_35, ↓gt_35, ↓gl_35, ↓ga_36, ↓gt_36, ↓gl_36, ↓ga_37, ↓gt_37, ↓gl_37, ↓ga_38, ↓gt_38, ↓gl_38, ↓ga_39, ↓gt_39, ↓gl_39, ↓ga_40, ↓gt_40, ↓gl_40, ↓ga_41, ↓gt_41, ↓gl_41, ↓gk_let_eq, ↓gk_ca_some, ↓Option.bind_some, gIl_0, gIl_1, gIl_2, gIl_3, gIl_4, gIl_5, gIl_6, gIl_7, gIl_8, gIl_9, gIl_10, gIl_11, gIl_12, gIl_13, gIl_14, gIl_15, gIl_16, gIl_17, gIl_18, gIl_19, gIl_20, gIl_21, gIl_22, gIl_23, gIl_24, gIl_25, gIl_26, gIl_27, gIl_28, gIl_29, gIl_30, gIl_31, gIl_32, gIl_33, gIl_34, gIl_35, gIl_36, gIl_37, gIl_38, gIl_39, gIl_40, gIl_41, gIl_42, gIl_43, gIl_44, gIl_45, gIl_46, gIl_47, gIl_48, gIl_49, gIl_50, gIl_51, gIl_52, gIl_53, gIl_54, gIl_55, gIl_56, gIl_57, gIl_58, gIl_59, gIl_60, gIl_61, gIl_62, gIl_63, gIl_64, gIl_65, gIl_66, gIl_67, gIl_68, gIl_69, gIl_70, gIl_71, gIl_72, gIl_73, gIl_74, gIl_75, gIl_76, gIl_77, gIl_78, gIl_79, gIl_80, gIl_81, gIl_82, gIl_83, gIl_84, gIl_85, gIl_86, gIl_87, gIl_88, gIl_89, gIl_90, gIl_91, gIl_92, gIl_97, gIl_99, gIl_100, gIl_122, gIl_126, gIl_255, gIl_256, gIl_365, gIl_400, gIl_460, gIl_1900, gIl_3600, gIl_4096, gIl_32767, gIl_65536, gIl_86400, gI_add, gI_mul, gI_sub, ite_le, ite_lt, ite_eq, gI_le, gI_lt, gI_eq, gu_I1, gu_I2, gu_I3, gu_I4, gu_D1, gu_D2, gu_D3, gu_D4, fj_lt, fj_le, fj_gt, fj_ge, fj_eq, ju_lt, ju_le, ju_gt, ju_ge, ju_eq, if_true, if_false, a1, a2, e4, e0, e2, nbI0, nbI1]
        have key : (fd_k (md x) = fd_k 0) ↔ ¬ (fd_k x.2.2.1 ≠ 0 ∨ x.1 = 3 ∧ x.2.1 = 1) := by
          rw [fd_k0]
          by_cases e1 : x.1 = 1
          · have hmd : md x = x.2.2.1 := if_pos e1
            rw [hmd]
            omega
          · have hmd : md x = FP.i2d (gI x.2.1) := if_neg e1
            have e3 : x.1 = 3 := by omega
            have hc1 := hx.2.2.2.2.1 e3
            have := i2d_small ⟨x.2.1, by omega⟩
            have k0 : fd_k x.2.2.1 = 0 := by rw [hx.2.2.2.1 (by omega)]; rfl
            rw [hmd, this]
            dsimp only
            omega
        refine ⟨S, ?_, mX.refl _ _, hb⟩
        by_cases z : fd_k (md x) = fd_k 0
        · rw [if_pos z, decide_eq_false (key.mp z)]
          rfl
        · rw [if_neg z, decide_eq_true (Classical.not_not.mp fun q => z (key.mpr q))]
          rfl
theorem m_wantTruth {v : Nat} {V : gp_V} (hm : mv S v V) (hv : v ≤ 16) (hb : S.1 30 11 = gI f) (hf : f ≤ 8) : ∃ S', f_M_wantTruth (some 30) (gI v) (gv_ov h S) = some (gB (if f = 0 then (sp_tru (sp_1 V)).2 else false), gv_ov h S') ∧ mX mQ S S' ∧ S'.1 30 11 = gI (bl f (sp_tru (sp_1 V)).1) := by
  unfold f_M_wantTruth f_M_wantTruth_b34 f_M_wantTruth_b35
  by_cases z : f = 0
  · subst z
    rw [if_pos rfl]
    by_cases e : V.2.1 * V.2.2.1 = 1
    · obtain ⟨c1, c2⟩ := hm.c0 e
      obtain ⟨S', s1, s2, s3⟩ := m_truthOf (h := h) c1 c2 (by omega) hb hf
      have hs := m_single' (h := h) hm hv hb hf
      rw [if_pos e, ← hb, gu_s] at hs
      have hz00 : (gI 0 = gI 0) = True := eq_self _
      simp (disch := (first | omega | assumption | exact fd_0_n | exact fd_53_n | exact fd_m53_n)) only [↓gg_30_0, ↓gs_30_0, ↓gg_30_1, ↓gs_30_1, ↓gg_30_3, ↓gs_30_3, ↓gg_30_11, ↓gs_30_11, ↓gg_30_12, ↓gs_30_12, ↓gg_30_16, ↓gs_30_16, ↓gg_30_17, ↓gs_30_17, ↓gg_30_18, ↓gs_30_18, ↓gg_30_19, ↓gs_30_19, ↓gg_30_20, ↓gs_30_20, ↓gg_30_21, ↓gs_30_21, ↓gg_30_22, ↓gs_30_22, ↓gg_30_23, ↓gs_30_23, ↓gg_30_24, ↓gs_30_24, ↓gr_30_2, ↓gr_30_4, ↓gr_30_5, ↓gr_30_6, ↓gr_30_7, ↓gr_30_8, ↓gr_30_9, ↓gr_30_10, ↓gr_30_13, ↓gr_30_14, ↓gr_30_15, ↓gc_30, ↓ga_31, ↓gt_31, ↓gl_31, ↓ga_32, ↓gt_32, ↓gl_32, ↓ga_33, ↓gt_33, ↓gl_33, ↓ga_34, ↓gt_34, ↓gl_34, ↓ga_35, ↓gt_35, ↓gl_35, ↓ga_36, ↓gt_36, ↓gl_36, ↓ga_37, ↓gt_37, ↓gl_37, ↓ga_38, ↓gt_38, ↓gl_38, ↓ga_39, ↓gt_39, ↓gl_39, ↓ga_40, ↓gt_40, ↓gl_40, ↓ga_41, ↓gt_41, ↓gl_41, ↓gk_let_eq, ↓gk_ca_some, ↓Option.bind_some, gIl_0, gIl_1, gIl_2, gIl_3, gIl_4, gIl_5, gIl_6, gIl_7, gIl_8, gIl_9, gIl_10, gIl_11, gIl_12, gIl_13, gIl_14, gIl_15, gIl_16, gIl_17, gIl_18, gIl_19, gIl_20, gIl_21, gIl_22, gIl_23, gIl_24, gIl_25, gIl_26, gIl_27, gIl_28, gIl_29, gIl_30, gIl_31, gIl_32, gIl_33, gIl_34, gIl_35, gIl_36, gIl_37, gIl_38, gIl_39, gIl_40, gIl_41, gIl_42, gIl_43, gIl_44, gIl_45, gIl_46, gIl_47, gIl_48, gIl_49, gIl_50, gIl_51, gIl_52, gIl_53, gIl_54, gIl_55, gIl_56, gIl_57, gIl_58, gIl_59, gIl_60, gIl_61, gIl_62, gIl_63, gIl_64, gIl_65, gIl_66, gIl_67, gIl_68, gIl_69, gIl_70, gIl_71, gIl_72, gIl_73, gIl_74, gIl_75, gIl_76, gIl_77, gIl_78, gIl_79, gIl_80, gIl_81, gIl_82, gIl_83, gIl_84, gIl_85, gIl_86, gIl_87, gIl_88, gIl_89, gIl_90, gIl_91, gIl_92, gIl_97, gIl_99, gIl_100, gIl_122, gIl_126, gIl_255, gIl_256, gIl_365, gIl_400, gIl_460, gIl_1900, gIl_3600, gIl_4096, gIl_32767, gIl_65536, gIl_86400, gI_add, gI_mul, gI_sub, ite_le, ite_lt, ite_eq, gI_le, gI_lt, gI_eq, gu_I1, gu_I2, gu_I3, gu_I4, gu_D1, gu_D2, gu_D3, gu_D4, fj_lt, fj_le, fj_gt, fj_ge, fj_eq, ju_lt, ju_le, ju_gt, ju_ge, ju_eq, if_true, if_false, hb, hs, hz00, s1, Nat.le_refl, ite_BI, nbI0, nbI1]
      refine ⟨S', ?_, s2, s3⟩
      cases (sp_tru (sp_1 V)).2 <;> rfl
    · have hs := m_single' (h := h) hm hv hb hf
      rw [if_neg e, bl_n] at hs
      have n30 : ¬ (3 = 0) := by decide
      simp (disch := (first | omega | assumption | exact fd_0_n | exact fd_53_n | exact fd_m53_n)) only [↓gg_30_0, ↓gs_30_0, ↓gg_30_1, ↓gs_30_1, ↓gg_30_3, ↓gs_30_3, ↓gg_30_11, ↓gs_30_11, ↓gg_30_12, ↓gs_30_12, ↓gg_30_16, ↓gs_30_16, ↓gg_30_17, ↓gs_30_17, ↓gg_30_18, ↓gs_30_18, ↓gg_30_19, ↓gs_30_19, ↓gg_30_20, ↓gs_30_20, ↓gg_30_21, ↓gs_30_21, ↓gg_30_22, ↓gs_30_22, ↓gg_30_23, ↓gs_30_23, ↓gg_30_24, ↓gs_30_24, ↓gr_30_2, ↓gr_30_4, ↓gr_30_5, ↓gr_30_6, ↓gr_30_7, ↓gr_30_8, ↓gr_30_9, ↓gr_30_10, ↓gr_30_13, ↓gr_30_14, ↓gr_30_15, ↓gc_30, ↓ga_31, ↓gt_31, ↓gl_31, ↓ga_32, ↓gt_32, ↓gl_32, ↓ga_33, ↓gt_33, ↓gl_33, ↓ga_34, ↓gt_34, ↓gl_34, ↓ga_35, ↓gt_35, ↓gl_35, ↓ga_36, ↓gt_36, ↓gl_36, ↓ga_37, ↓gt_37, ↓gl_37, ↓ga_38, ↓gt_38, ↓gl_38, ↓ga_39, ↓gt_39, ↓gl_39, ↓ga_40, ↓gt_40, ↓gl_40, ↓ga_41, ↓gt_41, ↓gl_41, ↓gk_let_eq, ↓gk_ca_some, ↓Option.bind_some, gIl_0, gIl_1, gIl_2, gIl_3, gIl_4, gIl_5, gIl_6, gIl_7, gIl_8, gIl_9, gIl_10, gIl_11, gIl_12, gIl_13, gIl_14, gIl_15, gIl_16, gIl_17, gIl_18, gIl_19, gIl_20, gIl_21, gIl_22, gIl_23, gIl_24, gIl_25, gIl_26, gIl_27, gIl_28, gIl_29, gIl_30, gIl_31, gIl_32, gIl_33, gIl_34, gIl_35, gIl_36, gIl_37, gIl_38, gIl_39, gIl_40, gIl_41, gIl_42, gIl_43, gIl_44, gIl_45, gIl_46, gIl_47, gIl_48, gIl_49, gIl_50, gIl_51, gIl_52, gIl_53, gIl_54, gIl_55, gIl_56, gIl_57, gIl_58, gIl_59, gIl_60, gIl_61, gIl_62, gIl_63, gIl_64, gIl_65, gIl_66, gIl_67, gIl_68, gIl_69, gIl_70, gIl_71, gIl_72, gIl_73, gIl_74, gIl_75, gIl_76, gIl_77, gIl_78, gIl_79, gIl_80, gIl_81, gIl_82, gIl_83, gIl_84, gIl_85, gIl_86, gIl_87, gIl_88, gIl_89, gIl_90, gIl_91, gIl_92, gIl_97, gIl_99, gIl_100, gIl_122, gIl_126, gIl_255, gIl_256, gIl_365, gIl_400, gIl_460, gIl_1900, gIl_3600, gIl_4096, gIl_32767, gIl_65536, gIl_86400, gI_add, gI_mul, gI_sub, ite_le, ite_lt, ite_eq, gI_le, gI_lt, gI_eq, gu_I1, gu_I2, gu_I3, gu_I4, gu_D1, gu_D2, gu_D3, gu_D4, fj_lt, fj_le, fj_gt, fj_ge, fj_eq, ju_lt, ju_le, ju_gt, ju_ge, ju_eq, if_true, if_false, hb, hs, Nat.le_refl, n30, nbI0]
      rw [sp_1_e e]
      exact ⟨_, rfl, mX.I _ ⟨rfl, Or.inl rfl⟩, gu_I2 _ _ _ _⟩
  · have z' : ¬ f ≤ 0 := by omega
    simp (disch := (first | omega | assumption | exact fd_0_n | exact fd_53_n | exact fd_m53_n)) only [↓gg_30_0, ↓gs_30_0, ↓gg_30_1, ↓gs_30_1, ↓gg_30_3, ↓gs_30_3, ↓gg_30_11, ↓gs_30_11, ↓gg_30_12, ↓gs_30_12, ↓gg_30_16, ↓gs_30_16, ↓gg_30_17, ↓gs_30_17, ↓gg_30_18, ↓gs_30_18, ↓gg_30_19, ↓gs_30_19, ↓gg_30_20, ↓gs_30_20, ↓gg_30_21, ↓gs_30_21, ↓gg_30_22, ↓gs_30_22, ↓gg_30_23, ↓gs_30_23, ↓gg_30_24, ↓gs_30_24, ↓gr_30_2, ↓gr_30_4, ↓gr_30_5, ↓gr_30_6, ↓gr_30_7, ↓gr_30_8, ↓gr_30_9, ↓gr_30_10, ↓gr_30_13, ↓gr_30_14, ↓gr_30_15, ↓gc_30, ↓ga_31, ↓gt_31, ↓gl_31, ↓ga_32, ↓gt_32, ↓gl_32, ↓ga_33, ↓gt_33, ↓gl_33, ↓ga_34, ↓gt_34, ↓gl_34, ↓ga_35, ↓gt_35, ↓gl_35, ↓ga_36, ↓gt_36, ↓gl_36, ↓ga_37, ↓gt_37, ↓gl_37, ↓ga_38, ↓gt_38, ↓gl_38, ↓ga_39, ↓gt_39, ↓gl_39, ↓ga_40, ↓gt_40, ↓gl_40, ↓ga_41, ↓gt_41, ↓gl_41, ↓gk_let_eq, ↓gk_ca_some, ↓Option.bind_some, gIl_0, gIl_1, gIl_2, gIl_3, gIl_4, gIl_5, gIl_6, gIl_7, gIl_8, gIl_9, gIl_10, gIl_11, gIl_12, gIl_13, gIl_14, gIl_15, gIl_16, gIl_17, gIl_18, gIl_19, gIl_20, gIl_21, gIl_22, gIl_23, gIl_24, gIl_25, gIl_26, gIl_27, gIl_28, gIl_29, gIl_30, gIl_31, gIl_32, gIl_33, gIl_34, gIl_35, gIl_36, gIl_37, gIl_38, gIl_39, gIl_40, gIl_41, gIl_42, gIl_43, gIl_44, gIl_45, gIl_46, gIl_47, gIl_48, gIl_49, gIl_50, gIl_51, gIl_52, gIl_53, gIl_54, gIl_55, gIl_56, gIl_57, gIl_58, gIl_59, gIl_60, gIl_61, gIl_62, gIl_63, gIl_64, gIl_65, gIl_66, gIl_67, gIl_68, gIl_69, gIl_70, gIl_71, gIl_72, gIl_73, gIl_74, gIl_75, gIl_76, gIl_77, gIl_78, gIl_79, gIl_80, gIl_81, gIl_82, gIl_83, gIl_84, gIl_85, gIl_86, gIl_87, gIl_88, gIl_89, gIl_90, gIl_91, gIl_92, gIl_97, gIl_99, gIl_100, gIl_122, gIl_126, gIl_255, gIl_256, gIl_365, gIl_400, gIl_460, gIl_1900, gIl_3600, gIl_4096, gIl_32767, gIl_65536, gIl_86400, gI_add, gI_mul, gI_sub, ite_le, ite_lt, ite_eq, gI_le, gI_lt, gI_eq, gu_I1, gu_I2, gu_I3, gu_I4, gu_D1, gu_D2, gu_D3, gu_D4, fj_lt, fj_le, fj_gt, fj_ge, fj_eq, ju_lt, ju_le, ju_gt, ju_ge, ju_eq, if_true, if_false, hb, z', z, nbI0]
    rw [bl_p z]
    exact ⟨S, rfl, mX.refl _ _, hb⟩
end MTR
