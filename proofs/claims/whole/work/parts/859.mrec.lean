/-! THE PURE PART: the reference reckons (but for a percent) -/
section MRE
variable {h : gk_H} {S : gv_S} {f : Nat}
theorem mo_divide {x y : UInt64} (hx : fd_f x) (hy : fd_f y) (hb : S.1 30 11 = gI 0) : ∃ S' val, f_M_divide (some 30) x y (gv_ov h S) = some (val, gv_ov h S') ∧ mX mB S S' ∧ mV (if fd_k y = 0 then gc_e 2 else gc_num (FP.ddiv x y)) val S' := by
  unfold f_M_divide
  rw [fi_eq _ _ hy.n fd_0_n, fd_k0]
  by_cases z : fd_k y = 0
  · rw [if_pos z, if_pos z, gc_30, gI_lit 2, m_fail 0 2 hb (by decide), gk_ca_some, bl_n]
    exact ⟨_, _, rfl, mX.I _ ⟨rfl, rfl⟩, mp_err rfl (by decide) (by decide) fd_0_n (gu_I2 _ _ _ _)⟩
  · have hd := fd_ddiv hx.n hy z
    obtain ⟨S', val, k1, k2, k3⟩ := m_stepV (h := h) hd hb
    rw [if_neg z, if_neg z, fd_dop hd, gc_30, k1, gk_ca_some]
    exact ⟨S', val, rfl, k2, k3⟩
/-- what an operator reckons -/
def sp_rec' (o : Nat) (x y : UInt64) : gp_C := if o = 0 then gc_n (FP.dsub 0 x) else if o = 1 then gc_num (FP.ddiv x 0x4059000000000000) else if o = 2 then sp_pow x y else if o = 3 then gc_num (FP.dmul x y) else if o = 4 then (if fd_k y = 0 then gc_e 2 else gc_num (FP.ddiv x y)) else if o = 5 then gc_num (FP.dadd x y) else gc_num (FP.dsub x y)
theorem mo_reckon {x y : UInt64} (hx : fd_f x) (hy : fd_f y) (h100 : fd_f (FP.ddiv x 0x4059000000000000)) (o : Nat) (ho : o ≤ 6) (hb : S.1 30 11 = gI 0) : ∃ S' val, f_M_reckon (some 30) (gI o) x y (gv_ov h S) = some (val, gv_ov h S') ∧ mX mB S S' ∧ mV (sp_rec' o x y) val S' := by
  have hos : o = 0 ∨ o = 1 ∨ o = 2 ∨ o = 3 ∨ o = 4 ∨ o = 5 ∨ o = 6 := by omega
  have st : ∀ {z : UInt64}, fd_n z → ∃ S' val, (gk_dop z fun x4 => gk_cv (gv_ov h S) (some 30) 7 (f_M_step (some 30) x4 (gv_ov h S)) fun x5 h2 => some (x5, h2)) = some (val, gv_ov h S') ∧ mX mB S S' ∧ mV (gc_num z) val S' := fun {z} hz => by
    obtain ⟨S', val, k1, k2, k3⟩ := m_stepV (h := h) hz hb
    rw [fd_dop hz, gc_30, k1, gk_ca_some]
    exact ⟨S', val, rfl, k2, k3⟩
  unfold f_M_reckon
  rcases hos with rfl | rfl | rfl | rfl | rfl | rfl | rfl
  · have hn := (fd_neg hx.n).1
    have hf : fd_f (FP.dsub 0 x) := (fd_f_k hn).mpr (by have := (fd_f_k hx.n).mp hx; rw [(fd_neg hx.n).2.1]; omega)
    rw [if_pos (by decide), fd_dop hn]
    exact ⟨S, _, rfl, mX.refl _ _, hb, hn, fun _ => ⟨rfl, hf⟩⟩
  · rw [if_neg (by decide), if_pos (by decide), fd_dop h100.n]
    refine ⟨S, _, rfl, mX.refl _ _, ?_⟩
    show mV (gc_num (FP.ddiv x 0x4059000000000000)) _ S
    rw [gc_num_f ((fin_f h100.n).mpr h100)]
    exact ⟨hb, h100.n, fun _ => ⟨rfl, h100⟩⟩
  · obtain ⟨S', val, k1, k2, k3⟩ := mp_power (h := h) hx hy hb
    rw [if_neg (by decide), if_neg (by decide), if_pos (by decide), gc_30, k1, gk_ca_some]
    exact ⟨S', val, rfl, k2, k3⟩
  · rw [if_neg (by decide), if_neg (by decide), if_neg (by decide), if_pos (by decide)]
    exact st (fd_mul_n hx hy)
  · obtain ⟨S', val, k1, k2, k3⟩ := mo_divide (h := h) hx hy hb
    rw [if_neg (by decide), if_neg (by decide), if_neg (by decide), if_neg (by decide), if_pos (by decide), gc_30, k1, gk_ca_some]
    exact ⟨S', val, rfl, k2, k3⟩
  · rw [if_neg (by decide), if_neg (by decide), if_neg (by decide), if_neg (by decide), if_neg (by decide), if_pos (by decide)]
    exact st (fd_add_n hx hy)
  · rw [if_neg (by decide), if_neg (by decide), if_neg (by decide), if_neg (by decide), if_neg (by decide), if_neg (by decide)]
    exact st (fd_sub_n hx hy)
/-- a number reckoned, as the answer -/
theorem mV.ans {c : gp_C} {val : UInt64} {S0 : gv_S} (a : mV c val S) (q : mX mSt S0 S) (he : sp_err c ≤ 8) : ∃ S', f_M_answerNumber (some 30) val (gv_ov h S) = some ((), gv_ov h S') ∧ mA (sp_err c) (gV_1 c) S0 S' := by
  obtain ⟨a1, a2, a3⟩ := a
  by_cases z : sp_err c = 0
  · obtain ⟨a4, a5⟩ := a3 z
    rw [z] at a1
    obtain ⟨S', e1, e2, e3, e4⟩ := m_ansN (h := h) a5 a1
    refine ⟨S', e1, ?_, fun _ => ?_, q.trans (e2.le fun x y w => mSet_st w)⟩
    · rw [z]
      exact e4
    · rw [a4]
      exact e3
  · obtain ⟨S', e1, e2, e3⟩ := m_ansX (h := h) a2 a1
    exact ⟨S', e1, e3, fun w => absurd w z, q.trans (e2.le fun x y w => mSet_st w)⟩
end MRE
