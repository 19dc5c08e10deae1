/-! THE PURE PART: the reference answers a cell, a word -/
section MCE
variable {h : gk_H} {S : gv_S} {w : Nat} {l : List Nat} {f : Nat}
theorem m_ansC {c : Nat} {x : gp_C} (hm : mc S c x) (hx : gp_okC x) (hc : c < 256) (hb : S.1 30 11 = gI f) : ∃ S', f_M_answerCell (some 30) (gI c) (gv_ov h S) = some ((), gv_ov h S') ∧ mX mSt S S' ∧ mv S' 16 (gV_1 x) ∧ S'.1 30 11 = gI f := by
  have e1 := m_set (h := h) (S := S) 16 x.1 0 (by decide) fd_0_n
  have e1' : f_M_setSingle (some 30) (16 : Int32) (gI x.1) (0x0000000000000000) (gv_ov h S) = _ := e1
  have x1 : mX (mSet 16) S (gv_uI (gv_uD (gv_uI (gv_uI (gv_uI (gv_uI S 32 16 (gI x.1)) 33 16 (gI 1)) 34 16 (gI 1)) 35 (16 * 16) (gI x.1)) 36 (16 * 16) (fd_c 0)) 37 (16 * 16) (gI 0)) := ((((((mX.I _ (Or.inl ⟨by decide, by decide, rfl⟩)).trans (mX.I _ (Or.inl ⟨by decide, by decide, rfl⟩))).trans (mX.I _ (Or.inl ⟨by decide, by decide, rfl⟩))).trans (mX.I _ (Or.inr ⟨by decide, by decide, rfl⟩))).trans (mX.D _ (Or.inr ⟨by decide, by decide, rfl⟩))).trans (mX.I _ (Or.inr ⟨by decide, by decide, rfl⟩)))
  have k32 : (gv_uI (gv_uD (gv_uI (gv_uI (gv_uI (gv_uI S 32 16 (gI x.1)) 33 16 (gI 1)) 34 16 (gI 1)) 35 (16 * 16) (gI x.1)) 36 (16 * 16) (fd_c 0)) 37 (16 * 16) (gI 0)).1 32 16 = gI x.1 := by
    simp (disch := (first | omega | assumption | exact fd_0_n | exact fd_53_n | exact fd_m53_n)) only [gu_I1, gu_I2, gu_I3, gu_I4, gu_D1, gu_D2, gu_D3, gu_D4]
  have k33 : (gv_uI (gv_uD (gv_uI (gv_uI (gv_uI (gv_uI S 32 16 (gI x.1)) 33 16 (gI 1)) 34 16 (gI 1)) 35 (16 * 16) (gI x.1)) 36 (16 * 16) (fd_c 0)) 37 (16 * 16) (gI 0)).1 33 16 = gI 1 := by
    simp (disch := (first | omega | assumption | exact fd_0_n | exact fd_53_n | exact fd_m53_n)) only [gu_I1, gu_I2, gu_I3, gu_I4, gu_D1, gu_D2, gu_D3, gu_D4]
  have k34 : (gv_uI (gv_uD (gv_uI (gv_uI (gv_uI (gv_uI S 32 16 (gI x.1)) 33 16 (gI 1)) 34 16 (gI 1)) 35 (16 * 16) (gI x.1)) 36 (16 * 16) (fd_c 0)) 37 (16 * 16) (gI 0)).1 34 16 = gI 1 := by
    simp (disch := (first | omega | assumption | exact fd_0_n | exact fd_53_n | exact fd_m53_n)) only [gu_I1, gu_I2, gu_I3, gu_I4, gu_D1, gu_D2, gu_D3, gu_D4]
  revert e1' x1 k32 k33 k34
  generalize gv_uI (gv_uD (gv_uI (gv_uI (gv_uI (gv_uI S 32 16 (gI x.1)) 33 16 (gI 1)) 34 16 (gI 1)) 35 (16 * 16) (gI x.1)) 36 (16 * 16) (fd_c 0)) 37 (16 * 16) (gI 0) = T
  intro e1' x1 k32 k33 k34
  have hm1 : mc T c x := hm.X x1 hx.2.2.2.2.2.2.2.2.1 fun a b z => by
    unfold mSet at z
    omega
  obtain ⟨S2, q1, q2, q3⟩ := m_copyCell (h := h) (t := 256) hx hm1 (by omega) (by decide) (by omega)
  have q1' : f_M_copyCell (some 30) (gI c) (256 : Int32) (gv_ov h T) = some ((), gv_ov h S2) := q1
  unfold f_M_answerCell
  rw [gr_30_7, ga_35 (by omega), hm.1, gc_30, e1', gk_ca_some, gc_30, q1', gk_ca_some]
  refine ⟨S2, rfl, (x1.le fun a b z => mSet_st z).trans (q2.le fun a b z => by unfold mCl at z; unfold mSt; omega), ⟨gp_ok1 hx, ?_, ?_, ?_, fun j hj => ?_⟩, ?_⟩
  · rw [q2.i (fun z => by unfold mCl at z; omega)]
    exact k32
  · rw [q2.i (fun z => by unfold mCl at z; omega)]
    exact k33
  · rw [q2.i (fun z => by unfold mCl at z; omega)]
    exact k34
  · have hj0 : j < 1 * 1 := hj
    have ej : j = 0 := by omega
    subst ej
    exact q3
  · rw [q2.i (fun z => by unfold mCl at z; omega), x1.i (fun z => by unfold mSet at z; omega)]
    exact hb
end MCE
