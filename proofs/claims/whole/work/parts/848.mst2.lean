/-! THE PURE PART: the reference's stack methods, looks -/
section MS2
variable {h : gk_H} {S : gv_S} {L : List gp_V} {u : List Nat} {V : gp_V}
theorem gs00 (c : Nat) {β : Type} (K : gk_H → Option β) : (gk_set (gv_ov h S) (some 30) 7 0 (.int (gI c))).bind K = K (gv_ov h (gv_uI S 30 0 (gI c))) := gs_30_0 _ K
theorem gs00l {β : Type} (K : gk_H → Option β) : (gk_set (gv_ov h S) (some 30) 7 0 (.int (0 : Int32))).bind K = K (gv_ov h (gv_uI S 30 0 (gI 0))) := gs_30_0 _ K
theorem gs01l {β : Type} (K : gk_H → Option β) : (gk_set (gv_ov h S) (some 30) 7 0 (.int (1 : Int32))).bind K = K (gv_ov h (gv_uI S 30 0 (gI 1))) := gs_30_0 _ K
theorem gs02l {β : Type} (K : gk_H → Option β) : (gk_set (gv_ov h S) (some 30) 7 0 (.int (2 : Int32))).bind K = K (gv_ov h (gv_uI S 30 0 (gI 2))) := gs_30_0 _ K
theorem gd_at {d : Int32} (z1 : ¬ d < 0) (hL : L.length ≤ 16) (z2 : d.toNatClampNeg < L.length) : gI L.length - (1 : Int32) - d = gI (L.length - 1 - d.toNatClampNeg) := by
  obtain ⟨e1, e2⟩ := gI_in z1
  rw [show gI L.length - (1 : Int32) = gI (L.length - 1) from gI_sub _ 1 (by omega)]
  conv => lhs; rw [e1]
  exact gI_sub _ _ (by omega)
theorem mo_again (a : mS S L) (b : mU S u) (d : Int32) : ∃ S', f_M_again (some 30) d (gv_ov h S) = some ((), gv_ov h S') ∧ mO S S' (cdN eIX (sp_again L d).1) (sp_again L d).2 u := by
  have h16 := a.1
  have none : ∃ S', f_M_again_b12 (some 30) (gv_ov h S) = some ((), gv_ov h S') ∧ mO S S' 1 L u := by
    unfold f_M_again_b12 f_M_again_b24 f_M_again_b59
    rw [if_neg (by decide), gs01l, gg_30_0, gu_I2, if_neg (show ¬ gI 1 ≤ 0 from by decide)]
    exact ⟨_, rfl, mO.code a b 1⟩
  unfold f_M_again sp_again
  by_cases z1 : d < 0
  · rw [if_pos z1, if_pos (Or.inl z1)]
    exact none
  · rw [if_neg z1, gg_30_3, a.2.1]
    by_cases z2 : gI L.length ≤ d
    · rw [if_neg (fun w => ((lt_in z1 (by omega)).mp w) z2), if_pos (Or.inr z2)]
      exact none
    · have hd := in_lt z1 (by omega) z2
      rw [if_pos ((lt_in z1 (by omega)).mpr z2), if_neg (show ¬ (d < 0 ∨ gI L.length ≤ d) from fun w => w.elim z1 z2), gg_30_3, a.2.1, gd_at z1 h16 hd]
      have hm := a.2.2 (L.length - 1 - d.toNatClampNeg) (by omega)
      revert hm
      generalize hV : L.getD (L.length - 1 - d.toNatClampNeg) gV_d = V
      have hp : L.length - 1 - d.toNatClampNeg < L.length := by omega
      revert hp
      generalize L.length - 1 - d.toNatClampNeg = p
      intro hp hm
      have hm16 := hm.1.2.2.1
      have z0 : ∀ {β : Type} (x y : β), (if (0 : Int32) ≤ gI p then x else y) = x := fun x y => by
        rw [show (0 : Int32) = gI 0 from rfl, ite_le _ _ _ _ (by decide) (by omega), if_pos (Nat.zero_le _)]
      unfold f_M_again_b24 f_M_again_b59 sp_push
      rw [z0, gr_30_5, ga_33 (by omega), gr_30_6, ga_34 (by omega), hm.2.2.1, hm.2.2.2.1, gI_mul, gc_30, mi_full a _ hm16, gk_ca_some, ite_B]
      by_cases z : L.length = 16
      · rw [if_pos (decide_eq_true z), if_neg (show ¬ L.length < 16 by omega), gs02l, gg_30_0, gu_I2, if_neg (show ¬ gI 2 ≤ 0 from by decide)]
        exact ⟨_, rfl, mO.code a b 2⟩
      · have a0 := a.code 0
        obtain ⟨S1, e1, e2, e3⟩ := m_copyV (h := h) (hm.X (m_code 0) fun x y w => by
          obtain ⟨w1, w2⟩ := w
          omega) (show p ≤ 16 by omega) (show L.length ≤ 16 by omega) (by omega)
        have s3 : S1.1 30 3 = gI L.length := by
          rw [e2.i (fun z => by unfold mVl at z; omega)]
          exact a0.2.1
        have hq := a0.push (n := L.length) (Nat.le_refl _) (by omega) e2 e3
        rw [List.take_length] at hq
        have q3 : mX (fun a b => a = 30 ∧ b = 3) S1 (gv_uI S1 30 3 (gI (L.length + 1))) := mX.I _ ⟨rfl, rfl⟩
        rw [if_neg (by rw [decide_eq_false z]; decide), if_pos (show L.length < 16 by omega), gs00l, gg_30_0, gu_I2, if_pos (show gI 0 ≤ 0 from by decide), gg_30_3, a0.2.1, gc_30, e1, gk_ca_some, gg_30_3, s3, show gI L.length + (1 : Int32) = gI (L.length + 1) from gI_add _ 1, gs_30_3]
        refine ⟨_, rfl, ?_, hq, ?_, ?_⟩
        · rw [gu_I1 _ _ _ _ _ _ (by omega), e2.i (fun z => by unfold mVl at z; omega)]
          exact gu_I2 _ _ _ _
        · exact ((b.code 0).X e2 fun x y z => by unfold mVl at z; omega).X q3 fun x y z => by omega
        · exact ((mO.code a b 0).2.2.2.trans (e2.fr fun x y z => by unfold mVl at z; omega)).trans (q3.fr fun x y z => by omega)
/-- an answer of an int: 0 where it throws -/
def anI (o : Sum Int32 String) : Int32 := match o with
  | .inl v => v
  | .inr _ => 0
theorem mo_about (a : mS S L) (b : mU S u) (d w : Int32) : ∃ S', f_M_about (some 30) d w (gv_ov h S) = some (anI (sp_about L d w), gv_ov h S') ∧ mO S S' (cdN eIX (sp_about L d w)) L u := by
  have h16 := a.1
  have none : ∃ S', f_M_about_b12 (some 30) d w (gv_ov h S) = some ((0 : Int32), gv_ov h S') ∧ mO S S' 1 L u := by
    unfold f_M_about_b12 f_M_about_b17 f_M_about_b41
    rw [if_neg (show ¬ (1 : Int32) = 0 from by decide), gs01l, gg_30_0, gu_I2, if_neg (show ¬ gI 1 ≤ 0 from by decide)]
    exact ⟨_, rfl, mO.code a b 1⟩
  unfold f_M_about sp_about
  by_cases z1 : d < 0
  · rw [if_pos z1, if_pos (Or.inl z1)]
    exact none
  · rw [if_neg z1, gg_30_3, a.2.1]
    by_cases z2 : gI L.length ≤ d
    · rw [if_neg (fun w => ((lt_in z1 (by omega)).mp w) z2), if_pos (Or.inr z2)]
      exact none
    · have hd := in_lt z1 (by omega) z2
      rw [if_pos ((lt_in z1 (by omega)).mpr z2), if_neg (show ¬ (d < 0 ∨ gI L.length ≤ d) from fun w => w.elim z1 z2)]
      have wrong : ∃ S', f_M_about_b36 (some 30) d w (some 30) (gv_ov h S) = some ((0 : Int32), gv_ov h S') ∧ mO S S' 2 L u := by
        unfold f_M_about_b36 f_M_about_b41
        rw [gs02l, gg_30_0, gu_I2, if_neg (show ¬ gI 2 ≤ 0 from by decide)]
        exact ⟨_, rfl, mO.code a b 2⟩
      have hm := a.2.2 (L.length - 1 - d.toNatClampNeg) (by omega)
      have a0 := a.code 0
      unfold f_M_about_b17
      rw [if_pos rfl]
      have right : ∃ S', f_M_about_b41 (some 30) d w (some 30) (0 : Int32) (gv_ov h S) = some (if w = 0 then gI (L.getD (L.length - 1 - d.toNatClampNeg) gV_d).1 else if w = 1 then gI (L.getD (L.length - 1 - d.toNatClampNeg) gV_d).2.1 else gI (L.getD (L.length - 1 - d.toNatClampNeg) gV_d).2.2.1, gv_ov h S') ∧ mO S S' 0 L u := by
        unfold f_M_about_b41 f_M_about_b99
        rw [gs00l, gg_30_0, gu_I2, if_pos (show gI 0 ≤ 0 from by decide), gg_30_3, a0.2.1, gd_at z1 h16 hd, gk_let_eq, gr_30_4, ga_32 (by omega), gr_30_5, ga_33 (by omega), gr_30_6, ga_34 (by omega), gu_I1 _ _ _ _ _ _ (by omega), gu_I1 _ _ _ _ _ _ (by omega), gu_I1 _ _ _ _ _ _ (by omega), hm.2.1, hm.2.2.1, hm.2.2.2.1]
        refine ⟨_, ?_, mO.code a b 0⟩
        by_cases y0 : w = 0
        · rw [if_pos y0, if_pos y0]
        · rw [if_neg y0, if_neg y0]
          by_cases y1 : w = 1
          · rw [if_pos y1, if_pos y1]
          · rw [if_neg y1, if_neg y1]
      by_cases y0 : w = 0
      · rw [if_pos y0] at right ⊢
        rw [y0] at right ⊢
        rw [if_neg (by decide), if_pos (by decide)]
        exact right
      · rw [if_neg y0] at right ⊢
        by_cases y1 : w = 1
        · rw [if_pos y1] at right ⊢
          rw [y1] at right ⊢
          rw [if_neg (by decide), if_pos (by decide)]
          exact right
        · rw [if_neg y1] at right ⊢
          by_cases y2 : w = 2
          · rw [if_pos y2]
            rw [y2] at right ⊢
            rw [if_neg (by decide), if_pos (by decide)]
            exact right
          · rw [if_neg y2]
            by_cases y3 : w < 0
            · rw [if_pos y3]
              exact wrong
            · rw [if_neg y3]
              have y4 : ¬ w ≤ (2 : Int32) := fun q => by
                obtain ⟨e1, e2⟩ := gI_in y3
                rw [e1, gI_lit 2, gI_le _ _ e2 (by decide)] at q
                rw [e1, show (0 : Int32) = gI 0 from rfl, gI_eq _ _ e2 (by decide)] at y0
                rw [e1, show (1 : Int32) = gI 1 from rfl, gI_eq _ _ e2 (by decide)] at y1
                rw [e1, gI_lit 2, gI_eq _ _ e2 (by decide)] at y2
                omega
              rw [if_neg y4]
              exact wrong
end MS2
