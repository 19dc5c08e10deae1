/-! THE PURE PART: the reference takes a text -/
section MTX
variable {h : gk_H} {S : gv_S} {w : Nat} {l : List Nat} {V : gp_V} {f : Nat}
theorem i2d_1 : FP.i2d (gI 1) = 0x3ff0000000000000 := by decide +kernel
theorem mWd_q {w a b : Nat} (z : mWd w a b) : mWq w a b := Or.inl z
theorem mWq_st {w a b : Nat} (z : mWq w a b) : mSt a b := by
  unfold mWq mWd mB at z
  unfold mSt
  omega
theorem mc.wq {S' : gv_S} {c : Nat} {x : gp_C} (a : mc S c x) (hx : gp_okC x) (q : mX (mWq w) S S') : mc S' c x := a.X q hx.2.2.2.2.2.2.2.2.1 fun x y z => by
  unfold mWq mWd mB at z
  omega
theorem mx_copy (hw : w < 9) {c : Nat} {x : gp_C} (hx : gp_okC x) (hc : c < 272) : ∀ (r k fu : Nat) (T : gv_S), k + r = x.2.2.2.length → r < fu → mc T c x → T.1 40 w = gI x.2.2.2.length → (∀ j, j < k → T.1 41 (256 * w + j) = gI (x.2.2.2.getD j 0)) → ∃ T', f_M_wantText_b96 fu (some 30) (gI w) (gI c) (gI k) (gv_ov h T) = f_M_wantText_b139 (some 30) (gI w) (gI c) (gv_ov h T') ∧ mX (mWd w) T T' ∧ mW T' w x.2.2.2 ∧ mc T' c x := by
  intro r
  have hl := hx.2.2.2.2.2.2.2.2.1
  have h128 := ok_t128 hx
  induction r with
  | zero =>
    intro k fu T hk hf hm h40 hj
    obtain ⟨fu, rfl⟩ : ∃ f, fu = f + 1 := ⟨fu - 1, by omega⟩
    rw [f_M_wantText_b96]
    dsimp only
    rw [gr_30_9, ga_37 (by omega), hm.2.2.1, ite_le _ _ _ _ (by omega) (by omega), if_pos (by omega)]
    exact ⟨T, rfl, mX.refl _ _, ⟨hl, h128, h40, fun j hj2 => hj j (by omega)⟩, hm⟩
  | succ r ih =>
    intro k fu T hk hf hm h40 hj
    obtain ⟨fu, rfl⟩ : ∃ f, fu = f + 1 := ⟨fu - 1, by omega⟩
    have hch : x.2.2.2.getD k 0 < 128 := by
      refine h128 _ ?_
      rw [List.getD_eq_getElem?_getD, List.getElem?_eq_getElem (show k < x.2.2.2.length by omega)]
      exact List.getElem_mem (show k < x.2.2.2.length by omega)
    have x1 : mX (mWd w) T (gv_uI T 41 (256 * w + k) (gI (x.2.2.2.getD k 0))) := mX.I _ (Or.inr ⟨rfl, by omega, by omega⟩)
    obtain ⟨T', q1, q2, q3, q4⟩ := ih (k + 1) fu _ (by omega) (by omega) (hm.wq hx (x1.le fun _ _ q => Or.inl q)) (by rw [gu_I1 _ _ _ _ _ _ (by omega)]; exact h40) (fun j hj2 => by
      by_cases q : j = k
      · rw [q]
        exact gu_I2 _ _ _ _
      · rw [gu_I1 _ _ _ _ _ _ (by omega)]
        exact hj j (by omega))
    rw [f_M_wantText_b96]
    dsimp only
    rw [gr_30_9, ga_37 (by omega), hm.2.2.1, ite_le _ _ _ _ (by omega) (by omega), if_neg (by omega), gr_30_15, gr_30_10, gI_lit 256, gI_mul, gI_mul, gI_add, gI_add, ga_38 (by omega), hm.2.2.2 k (by omega), gt_41 (by omega), gI_bb hch, gk_let_eq, show gI k + (1 : Int32) = gI (k + 1) from gI_add k 1]
    exact ⟨T', q1, x1.trans q2, q3, q4⟩
theorem mx_truth (hw : w < 9) {n : Nat} (hn : n = 4 ∨ n = 5) : ∀ (r k fu : Nat) (T : gv_S), k + r = n → r < fu → mW T w ((mt_L n).take k) → ∃ T', f_M_wantText_b170 fu (some 30) (gI w) (gI n) (gI k) (gv_ov h T) = some ((), gv_ov h T') ∧ mX (mWd w) T T' ∧ mW T' w (mt_L n) := by
  have hlen := mt_len hn
  intro r
  induction r with
  | zero =>
    intro k fu T hk hf a
    obtain ⟨fu, rfl⟩ : ∃ f, fu = f + 1 := ⟨fu - 1, by omega⟩
    rw [f_M_wantText_b170]
    unfold f_M_wantText_b195
    dsimp only
    rw [ite_le _ _ _ _ (by omega) (by omega), if_pos (by omega)]
    refine ⟨T, rfl, mX.refl _ _, ?_⟩
    rw [List.take_of_length_le (by omega)] at a
    exact a
  | succ r ih =>
    intro k fu T hk hf a
    obtain ⟨fu, rfl⟩ : ∃ f, fu = f + 1 := ⟨fu - 1, by omega⟩
    have hd : (mt_L n).getD k 0 < 128 := by
      have : ∀ c ∈ mt_L n, c < 128 := by
        rcases hn with rfl | rfl <;> decide
      refine this _ ?_
      rw [List.getD_eq_getElem?_getD, List.getElem?_eq_getElem (show k < (mt_L n).length by omega)]
      exact List.getElem_mem (show k < (mt_L n).length by omega)
    have et : (mt_L n).take (k + 1) = (mt_L n).take k ++ [(mt_L n).getD k 0] := by
      rw [List.take_succ, List.getD_eq_getElem?_getD, List.getElem?_eq_getElem (show k < (mt_L n).length by omega)]
      rfl
    obtain ⟨T1, e1, e2, e3⟩ := m_put (h := h) a hw _ hd (by rw [List.length_take]; omega)
    rw [← et] at e3
    obtain ⟨T2, q1, q2, q3⟩ := ih (k + 1) fu T1 (by omega) (by omega) e3
    rw [f_M_wantText_b170]
    dsimp only
    rw [ite_le _ _ _ _ (by omega) (by omega), if_neg (by omega), m_tl n k hn (by omega), gk_ca_some, gc_30, e1, gk_ca_some, gk_let_eq, show gI k + (1 : Int32) = gI (k + 1) from gI_add k 1]
    exact ⟨T2, q1, e2.trans q2, q3⟩
theorem m_wantText {v : Nat} (hm : mv S v V) (hv : v ≤ 16) (hw : w < 9) (hb : S.1 30 11 = gI f) (hf : f ≤ 8) : ∃ S', f_M_wantText (some 30) (gI v) (gI w) (gv_ov h S) = some ((), gv_ov h S') ∧ mX (mWq w) S S' ∧ S'.1 30 11 = gI (bl f (sp_txt (sp_1 V)).1) ∧ mW S' w (if f = 0 then (sp_txt (sp_1 V)).2 else []) := by
  have x0 : mX (mWq w) S (gv_uI S 40 w (gI 0)) := mX.I _ (Or.inl (Or.inl ⟨rfl, rfl⟩))
  have hb0 : (gv_uI S 40 w (gI 0)).1 30 11 = gI f := by
    rw [gu_I1 _ _ _ _ _ _ (by omega)]
    exact hb
  have a0 := mW.nil S w
  have hm0 : mv (gv_uI S 40 w (gI 0)) v V := hm.X x0 fun x y z => by
    unfold mWq mWd mB at z
    omega
  have zf : ∀ (q : Nat), q ≤ 8 → ∀ {β : Type} (x y : β), (if gI q ≤ gI 0 then x else y) = if q = 0 then x else y := fun q hq _ x y => by
    rw [ite_le _ _ _ _ (by omega) (by decide)]
    by_cases z : q = 0
    · rw [if_pos z, if_pos (by omega)]
    · rw [if_neg z, if_neg (by omega)]
  unfold f_M_wantText
  rw [gr_30_14, show (0 : Int32) = gI 0 from rfl, gt_40 hw, gg_30_11, hb0, zf f hf]
  by_cases z : f = 0
  · subst z
    rw [if_pos rfl, if_pos rfl, gc_30, m_single' hm0 hv hb0 hf, gk_ca_some, gg_30_11, gu_I2, bl_n, bl_n]
    by_cases z1 : V.2.1 * V.2.2.1 = 1
    · have x1 : mX mB (gv_uI S 40 w (gI 0)) (gv_uI (gv_uI S 40 w (gI 0)) 30 11 (gI 0)) := mX.I _ ⟨rfl, rfl⟩
      obtain ⟨c1, hok⟩ := (hm0.X x1 fun x y z => by unfold mB at z; omega).c0 z1
      have a1 : mW (gv_uI (gv_uI S 40 w (gI 0)) 30 11 (gI 0)) w [] := a0.X x1 fun x y q => by
        unfold mB at q
        unfold mWd
        omega
      have x01 : mX (mWq w) S (gv_uI (gv_uI S 40 w (gI 0)) 30 11 (gI 0)) := x0.trans (x1.le fun _ _ q => Or.inr q)
      have b1 : (gv_uI (gv_uI S 40 w (gI 0)) 30 11 (gI 0)).1 30 11 = gI 0 := gu_I2 _ _ _ _
      rw [if_pos z1, if_pos (show gI 0 ≤ gI 0 from by decide), gr_30_7, ga_35 (by omega), c1.1]
      revert c1 a1 x01 b1
      generalize gv_uI (gv_uI S 40 w (gI 0)) 30 11 (gI 0) = T
      intro c1 a1 x01 b1
      generalize sp_1 V = c at c1 hok
      have h4 := hok.1
      have hcd := ok_code hok
      have kd : ∀ (T' : gv_S), mc T' (16 * v) c → ∀ {β : Type} (K : Int32 → Option β), ((gk_ald (gv_ov h T') (some 35) 1 (gI (16 * v))).bind gk_asI).bind K = K (gI c.1) := fun T' q _ K => by
        rw [ga_35 (by omega), q.1]
      rw [gI_lit 4, ite_eq _ _ _ _ (by omega) (by decide)]
      have e139 : ∀ T', mc T' (16 * v) c → c.1 ≠ 3 → f_M_wantText_b139 (some 30) (gI w) (gI (16 * v)) (gv_ov h T') = some ((), gv_ov h T') := fun T' q hne => by
        unfold f_M_wantText_b139 f_M_wantText_b195
        rw [gr_30_7, kd T' q, gI_lit 3, ite_eq _ _ _ _ (by omega) (by decide), if_neg hne]
      by_cases k4 : c.1 = 4
      · have eT : sp_txt c = (c.2.1, []) := by
          unfold sp_txt sp_err
          rw [if_neg (by omega), if_neg (by omega), if_pos k4, hok.2.2.2.2.2.2.2.1 (by omega)]
        have x2 : mX mB T (gv_uI T 30 11 (gI c.2.1)) := mX.I _ ⟨rfl, rfl⟩
        have c2 : mc (gv_uI T 30 11 (gI c.2.1)) (16 * v) c := c1.wq (w := w) hok (x2.le fun _ _ q => Or.inr q)
        rw [if_pos k4, gr_30_8, ga_36 (by omega), c1.2.1, show md c = FP.i2d (gI c.2.1) from if_neg (by omega), d2i_i2d', gc_30, m_fail 0 c.2.1 b1 (by decide), gk_ca_some, bl_n]
        unfold f_M_wantText_b50 f_M_wantText_b71
        rw [gr_30_7, kd _ c2, show (1 : Int32) = gI 1 from rfl, ite_eq _ _ _ _ (by omega) (by decide), if_neg (by omega), gr_30_7, kd _ c2, gI_lit 2, ite_eq _ _ _ _ (by omega) (by decide), if_neg (by omega), e139 _ c2 (by omega), eT]
        refine ⟨_, rfl, x01.trans (x2.le fun _ _ q => Or.inr q), gu_I2 _ _ _ _, a1.X x2 fun x y q => ?_⟩
        unfold mB at q
        unfold mWd
        omega
      · rw [if_neg k4]
        unfold f_M_wantText_b50 f_M_wantText_b71
        rw [gr_30_7, kd _ c1, show (1 : Int32) = gI 1 from rfl, ite_eq _ _ _ _ (by omega) (by decide)]
        by_cases k1 : c.1 = 1
        · obtain ⟨T2, e1, e2, e3, e4⟩ := m_write (h := h) hw hok.2.1.n hok.2.2.1 b1 (by decide)
          have c2 : mc T2 (16 * v) c := c1.wq hok e2
          have eT : sp_txt c = (if -4831355200913801216 < fd_k c.2.2.1 ∧ fd_k c.2.2.1 < 4831355200913801216 then (0, wr c.2.2.1) else (3, [])) := if_pos k1
          rw [if_pos k1, gr_30_8, ga_36 (by omega), c1.2.1, show md c = c.2.2.1 from if_pos k1, gc_30, e1, gk_ca_some, gr_30_7, kd _ c2, gI_lit 2, ite_eq _ _ _ _ (by omega) (by decide), if_neg (by omega), e139 _ c2 (by omega), eT]
          refine ⟨T2, rfl, x01.trans e2, ?_, ?_⟩
          · rw [e3, bl_n]
            split <;> rfl
          · by_cases q : (-4831355200913801216 < fd_k c.2.2.1 ∧ fd_k c.2.2.1 < 4831355200913801216)
            · rw [if_pos q] at e4 ⊢
              exact e4
            · rw [if_neg q] at e4 ⊢
              exact e4
        · rw [if_neg k1, gr_30_7, kd _ c1, gI_lit 2, ite_eq _ _ _ _ (by omega) (by decide)]
          by_cases k2 : c.1 = 2
          · have eT : sp_txt c = (0, c.2.2.2) := by
              unfold sp_txt sp_err
              rw [if_neg k1, if_neg (by omega), if_neg k4]
            have x2 : mX (mWd w) T (gv_uI T 40 w (gI c.2.2.2.length)) := mX.I _ (Or.inl ⟨rfl, rfl⟩)
            obtain ⟨T3, q1, q2, q3, q4⟩ := mx_copy (h := h) hw hok (show 16 * v < 272 by omega) c.2.2.2.length 0 gk_F _ (Nat.zero_add _) (by have := hok.2.2.2.2.2.2.2.2.1; unfold gk_F; omega) (c1.wq hok (x2.le fun _ _ q => Or.inl q)) (gu_I2 _ _ _ _) (fun j hj => absurd hj (Nat.not_lt_zero j))
            have q1' : f_M_wantText_b96 gk_F (some 30) (gI w) (gI (16 * v)) (0 : Int32) (gv_ov h (gv_uI T 40 w (gI c.2.2.2.length))) = _ := q1
            rw [if_pos k2, gr_30_14, gr_30_9, ga_37 (by omega), c1.2.2.1, gt_40 hw, q1', e139 _ q4 (by omega), eT]
            refine ⟨T3, rfl, (x01.trans (x2.le fun _ _ q => Or.inl q)).trans (q2.le fun _ _ q => Or.inl q), ?_, q3⟩
            rw [q2.i (fun q => by unfold mWd at q; omega), gu_I1 _ _ _ _ _ _ (by omega)]
            exact b1
          · rw [if_neg k2]
            unfold f_M_wantText_b139 f_M_wantText_b195 f_M_wantText_b165
            rw [gr_30_7, kd _ c1, gI_lit 3, ite_eq _ _ _ _ (by omega) (by decide)]
            by_cases k3 : c.1 = 3
            · have hc01 := hok.2.2.2.2.1 k3
              have eT : sp_txt c = (0, if c.2.1 = 1 then nl_T else nl_F) := by
                unfold sp_txt
                rw [if_neg k1, if_pos k3]
              rw [if_pos k3, gr_30_8, ga_36 (by omega), c1.2.1, show md c = FP.i2d (gI c.2.1) from if_neg (by omega), eT]
              have fin : ∀ n : Nat, n = 4 ∨ n = 5 → mt_L n = (if c.2.1 = 1 then nl_T else nl_F) → ∃ S', f_M_wantText_b170 gk_F (some 30) (gI w) (gI n) (gI 0) (gv_ov h T) = some ((), gv_ov h S') ∧ mX (mWq w) S S' ∧ S'.1 30 11 = gI 0 ∧ mW S' w (if c.2.1 = 1 then nl_T else nl_F) := fun n hn hL => by
                obtain ⟨T2, q1, q2, q3⟩ := mx_truth (h := h) hw hn n 0 gk_F T (Nat.zero_add _) (by unfold gk_F; omega) a1
                rw [hL] at q3
                refine ⟨T2, q1, x01.trans (q2.le fun _ _ q => Or.inl q), ?_, q3⟩
                rw [q2.i (fun q => by unfold mWd at q; omega)]
                exact b1
              by_cases q : c.2.1 = 1
              · rw [q, i2d_1, fi_eq _ _ fd_1_f.n fd_1_f.n, if_pos rfl]
                rw [q] at fin
                exact fin 4 (Or.inl rfl) rfl
              · have q0 : c.2.1 = 0 := by omega
                rw [q0, md_0, fi_eq _ _ fd_0_n fd_1_f.n, if_neg (by decide)]
                rw [q0] at fin
                exact fin 5 (Or.inr rfl) rfl
            · have k0 : c.1 = 0 := by omega
              have eT : sp_txt c = (0, []) := by
                unfold sp_txt sp_err
                rw [if_neg k1, if_neg k3, if_neg k4, hok.2.2.2.2.2.2.2.1 k2]
              rw [if_neg k3, eT]
              exact ⟨T, rfl, x01, b1, a1⟩
    · have e1 : sp_1 V = gc_e 3 := if_neg z1
      have x1 : mX mB (gv_uI S 40 w (gI 0)) (gv_uI (gv_uI S 40 w (gI 0)) 30 11 (gI 3)) := mX.I _ ⟨rfl, rfl⟩
      rw [if_neg z1, if_neg (show ¬ gI 3 ≤ gI 0 from by decide), e1]
      refine ⟨_, rfl, x0.trans (x1.le fun _ _ q => Or.inr q), gu_I2 _ _ _ _, a0.X x1 fun x y q => ?_⟩
      unfold mB at q
      unfold mWd
      omega
  · have e : bl f (sp_txt (sp_1 V)).1 = f := if_neg z
    rw [if_neg z, if_neg z, e]
    exact ⟨_, rfl, x0, hb0, a0⟩
end MTX
