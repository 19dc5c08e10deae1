/-! THE PURE PART: the reference's operate -/
section MO3
variable {h : gk_H} {S : gv_S} {L : List gp_V} {u : List Nat} {V : gp_V} {f : Nat}
theorem mo_operate (a : mS S L) (b : mU S u) (o : Int32) : ∃ S', f_M_operate (some 30) o (gv_ov h S) = some ((), gv_ov h S') ∧ mO S S' (cdN eAR (sp_operate L o).1) (sp_operate L o).2 u := by
  have h16 := a.1
  have bad : ∀ k : Int32, ∃ S', f_M_operate_b30 (some 30) o k (some 30) (gv_ov h S) = some ((), gv_ov h S') ∧ mO S S' 1 L u := fun k => by
    unfold f_M_operate_b30 f_M_operate_b35
    rw [gs01l, gg_30_0, gu_I2, if_neg (show ¬ gI 1 ≤ 0 from by decide)]
    exact ⟨_, rfl, mO.code a b 1⟩
  have b10 : ∀ k : Nat, k = (if o.toNatClampNeg < 2 then 1 else 2) → ∃ S', f_M_operate_b10 (some 30) o (gI k) (gv_ov h S) = some ((), gv_ov h S') ∧ mO S S' (cdN eAR (sp_operate L o).1) (sp_operate L o).2 u := by
    intro k hk
    have hk2 : 1 ≤ k ∧ k ≤ 2 := by rw [hk]; split <;> omega
    unfold f_M_operate_b10 sp_operate
    rw [← hk]
    by_cases z1 : o < 0
    · rw [if_pos z1, if_pos (Or.inl z1)]
      exact bad _
    · obtain ⟨e1, e2⟩ := gI_in z1
      rw [if_neg z1]
      by_cases z2 : gI 14 ≤ o
      · have : (13 : Int32) < o := by
          rw [e1, gI_lit 13, gI_lt _ _ (by decide) e2]
          rw [e1, gI_le _ _ (by decide) e2] at z2
          omega
        rw [if_pos this, if_pos (Or.inr z2)]
        exact bad _
      · have ho := in_lt z1 (by decide) z2
        have : ¬ (13 : Int32) < o := by
          rw [e1, gI_lit 13, gI_lt _ _ (by decide) e2]
          omega
        rw [if_neg this, if_neg (show ¬ (o < 0 ∨ gI 14 ≤ o) from fun w => w.elim z1 z2), gg_30_3, a.2.1, ite_le _ _ _ _ (by omega) (by omega)]
        by_cases z3 : L.length < k
        · rw [if_neg (show ¬ k ≤ L.length by omega), if_pos z3]
          exact bad _
        · rw [if_pos (show k ≤ L.length by omega), if_neg z3]
          revert bad z1 z2 e1
          generalize o.toNatClampNeg = O at ho hk e2 ⊢
          intro bad z1 e1' z2
          subst e1'
          have endK : ∀ (T : gv_S) (W c : gp_V) (e : Nat), mA e W (mB0 S) T → e ≤ 8 → sxV e W = c → ∃ S', f_M_operate_b207 (some 30) (gI k) (gv_ov h T) = some ((), gv_ov h S') ∧ mO S S' 0 (L.take (L.length - k) ++ [c]) u := fun T W c e hA he hs => by
            obtain ⟨S', p1, p2⟩ := mo_end (h := h) a b (show k ≤ L.length by omega) (by omega) hA he
            unfold f_M_operate_b207
            rw [gc_30, p1, gk_ca_some, ← hs]
            exact ⟨S', rfl, p2⟩
          have s0 : ∀ {β : Type} (K : gk_H → Option β), (gk_set (gv_ov h (gv_uI S 30 0 (gI 0))) (some 30) 7 11 (.int (0 : Int32))).bind K = K (gv_ov h (mB0 S)) := fun K => gs_30_11 _ K
          have m3 : (mB0 S).1 30 3 = gI L.length := (mB0_s a).2.1
          unfold f_M_operate_b35
          rw [gs00l, gg_30_0, gu_I2, if_pos (show gI 0 ≤ 0 from by decide), s0, gg_30_3, m3, gI_sub _ _ (by omega), gk_let_eq, gg_30_3, m3, show gI L.length - (1 : Int32) = gI (L.length - 1) from gI_sub _ 1 (by omega), gk_let_eq, gI_lit 7, ite_le _ _ _ _ (by omega) (by decide), ite_eq _ _ _ _ (by omega) (by decide)]
          by_cases y7 : O ≤ 7
          · rw [if_pos y7]
            by_cases y : O = 7
            · have k2 : k = 2 := by rw [hk, if_neg (by omega)]
              subst k2
              obtain ⟨T, t1, e, W, t2, t3, t4⟩ := mo_op7 (h := h) a b (by omega)
              obtain ⟨S', p1, p2⟩ := endK T W _ e t2 t3 t4
              rw [if_pos y]
              exact ⟨S', (t1 (fun h5 => f_M_operate_b207 (some 30) (gI 2) h5)).trans p1, by rw [y]; exact p2⟩
            · obtain ⟨T, t1, e, W, t2, t3, t4⟩ := mo_opN (h := h) a b O (by omega) k hk (by omega)
              obtain ⟨S', p1, p2⟩ := endK T W _ e t2 t3 t4
              rw [if_neg y]
              unfold f_M_operate_b185
              exact ⟨S', (t1 (fun h5 => f_M_operate_b207 (some 30) (gI k) h5)).trans p1, p2⟩
          · have k2 : k = 2 := by rw [hk, if_neg (by omega)]
            subst k2
            obtain ⟨T, t1, t2⟩ := mo_op8 (h := h) a b (by omega) O (by omega) (by omega)
            have hE : bl (sp_err (sp_1 (upL L 2 0))) (sp_err (sp_1 (upL L 2 1))) ≤ 8 := bl_le (sp_err_le (sp_1_ok (mv_up a (by omega) 0 (by decide)).1)) (sp_err_le (sp_1_ok (mv_up a (by omega) 1 (by decide)).1))
            have esp : sxV (bl (sp_err (sp_1 (upL L 2 0))) (sp_err (sp_1 (upL L 2 1)))) (gV_1 (gc_b (sp_std O (sp_ord (sp_1 (upL L 2 0)) (sp_1 (upL L 2 1)))))) = gV_1 (sp_op O (upL L 2)) := by
              rw [sxV_1]
              unfold sp_op
              rw [if_neg (by omega), if_neg (by omega), if_neg (by omega), if_neg (by omega), if_neg (by omega), if_neg (by omega), if_neg (by omega), if_neg (by omega)]
            obtain ⟨S', p1, p2⟩ := endK T _ _ _ t2 hE esp
            rw [if_neg y7]
            unfold f_M_operate_b119 f_M_operate_b133
            have eq8 : (gI O = (8 : Int32)) = (O = 8) := gI_eq O 8 (by omega) (by decide)
            have eq9 : (gI O = (9 : Int32)) = (O = 9) := gI_eq O 9 (by omega) (by decide)
            by_cases y8 : O = 8
            · have q8 : gI O = (8 : Int32) := by rw [eq8]; exact y8
              simp only [if_pos q8]
              rw [y8] at t1
              rw [y8]
              rw [y8] at p2
              exact ⟨S', (t1 (fun h5 => f_M_operate_b207 (some 30) (gI 2) h5)).trans p1, p2⟩
            · have q8 : ¬ gI O = (8 : Int32) := by rw [eq8]; exact y8
              by_cases y9 : O = 9
              · have q9 : gI O = (9 : Int32) := by rw [eq9]; exact y9
                simp only [if_neg q8, if_pos q9]
                rw [y9] at t1
                rw [y9]
                rw [y9] at p2
                exact ⟨S', (t1 (fun h5 => f_M_operate_b207 (some 30) (gI 2) h5)).trans p1, p2⟩
              · have q9 : ¬ gI O = (9 : Int32) := by rw [eq9]; exact y9
                have e8 : gI O - (8 : Int32) = gI (O - 8) := gI_sub O 8 (by omega)
                simp only [if_neg q8, if_neg q9, e8]
                exact ⟨S', (t1 (fun h5 => f_M_operate_b207 (some 30) (gI 2) h5)).trans p1, p2⟩
  unfold f_M_operate
  by_cases z : (2 : Int32) ≤ o
  · rw [if_pos z]
    have n0 : ¬ o < 0 := fun w => by
      rw [show (0 : Int32) = gI 0 from rfl, lt_iff (by decide)] at w
      rw [Int32.le_iff_toInt_le, show (2 : Int32).toInt = 2 from rfl] at z
      omega
    obtain ⟨e1, e2⟩ := gI_in n0
    refine b10 2 ?_
    rw [e1, gI_lit 2, gI_le _ _ (by decide) e2] at z
    rw [if_neg (by omega)]
  · rw [if_neg z]
    refine b10 1 ?_
    by_cases n0 : o < 0
    · have : o.toNatClampNeg = 0 := by
        have h1 : o.toInt < 0 := Int32.lt_iff_toInt_lt.mp n0
        show o.toInt.toNat = 0
        omega
      rw [this]
      rfl
    · obtain ⟨e1, e2⟩ := gI_in n0
      rw [e1, gI_lit 2, gI_le _ _ (by decide) e2] at z
      rw [if_pos (by omega)]
end MO3
