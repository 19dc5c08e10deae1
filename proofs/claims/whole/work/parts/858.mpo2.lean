/-! THE PURE PART: the reference's power, reckoning -/
section MP2
variable {h : gk_H} {S : gv_S} {f : Nat}
theorem mo_isWhole {y : UInt64} (hy : fd_n y) (h1 : -4652209618980700160 ≤ fd_k y) (h2 : fd_k y ≤ 4652209618980700160) (h : gk_H) : f_M_isWhole y h = some (gB (decide (fd_k (s_tr y) = fd_k y)), h) := by
  have e : s_tr y = FP.l2d (FP.d2l y) := if_pos (by omega)
  unfold f_M_isWhole f_M_isWhole_b24 f_M_isWhole_b29
  rw [fi_ge _ _ hy fd_53_n, fi_le _ _ hy fd_m53_n, fd_53_k, fd_m53_k, if_neg (show ¬ (4845873199050653696 : Int) ≤ fd_k y by omega), if_neg (show ¬ fd_k y ≤ (-4845873199050653696 : Int) by omega), fi_eq _ _ (fd_l2df _).n hy, nb0, nb1, e]
  by_cases z : fd_k (FP.l2d (FP.d2l y)) = fd_k y
  · rw [if_pos z, decide_eq_true z]
    rfl
  · rw [if_neg z, decide_eq_false z]
    rfl
theorem mp_err {c : gp_C} {e : Nat} (hc : c = gc_e e) (he : 1 ≤ e) (he8 : e ≤ 8) {val : UInt64} (hv : fd_n val) {S' : gv_S} (hS : S'.1 30 11 = gI e) : mV c val S' := by
  subst hc
  exact ⟨hS, hv, fun q => by have q' : e = 0 := q; omega⟩
theorem mp_power {x y : UInt64} (hx : fd_f x) (hy : fd_f y) (hb : S.1 30 11 = gI 0) : ∃ S' val, f_M_power (some 30) x y (gv_ov h S) = some (val, gv_ov h S') ∧ mX mB S S' ∧ mV (sp_pow x y) val S' := by
  have bad : ∀ (e : Nat), 1 ≤ e → e ≤ 8 → ∀ c : gp_C, c = gc_e e → ∃ S' val, (gk_cv (gv_ov h S) (some 30) 7 (f_M_fail (some 30) (gI e) (gv_ov h S)) fun _ h1 => some ((0x0000000000000000 : UInt64), h1)) = some (val, gv_ov h S') ∧ mX mB S S' ∧ mV c val S' := fun e he he8 c hc => by
    rw [gc_30, m_fail 0 e hb (by decide), gk_ca_some, bl_n]
    exact ⟨_, _, rfl, mX.I _ ⟨rfl, rfl⟩, mp_err hc he he8 fd_0_n (gu_I2 _ _ _ _)⟩
  have b39 : sp_pow x y = gc_e 6 → ∃ S' val, f_M_power_b39 (some 30) x y (gv_ov h S) = some (val, gv_ov h S') ∧ mX mB S S' ∧ mV (sp_pow x y) val S' := fun hc => by
    unfold f_M_power_b39 f_M_power_b40
    rw [if_pos rfl]
    exact bad 6 (by decide) (by decide) _ hc
  unfold f_M_power
  rw [fi_lt _ _ hy.n fd_pm_n.1, fi_gt _ _ hy.n fd_pm_n.2, fd_pm_k.1, fd_pm_k.2]
  by_cases c1 : fd_k y < -4652209618980700160
  · rw [if_pos c1]
    exact b39 (if_pos (Or.inl c1))
  · rw [if_neg c1]
    by_cases c2 : 4652209618980700160 < fd_k y
    · rw [if_pos c2]
      exact b39 (if_pos (Or.inr (Or.inl c2)))
    · rw [if_neg c2, mo_isWhole hy.n (by omega) (by omega), gk_ca_some, ite_B]
      by_cases c3 : fd_k (s_tr y) = fd_k y
      · have hg0 : ¬ (fd_k y < -4652209618980700160 ∨ 4652209618980700160 < fd_k y ∨ fd_k (s_tr y) ≠ fd_k y) := by omega
        obtain ⟨p1, p2, p3⟩ := pw_e hy.n (by omega) (by omega)
        have esp : ¬ (fd_k x = 0 ∧ fd_k y ≤ 0) → sp_pow x y = (match pwl 12 (fd_T (wr_y y)).toNat 0x3ff0000000000000 x with
            | none => gc_e 6
            | some r => if fd_k y < 0 then (if fd_k r = 0 then gc_e 6 else gc_num (FP.ddiv 0x3ff0000000000000 r)) else gc_n r) := fun q => by
          unfold sp_pow
          rw [if_neg hg0, if_neg q]
          cases pwl 12 (fd_T (wr_y y)).toNat 0x3ff0000000000000 x <;> rfl
        have b74 : ¬ (fd_k x = 0 ∧ fd_k y ≤ 0) → ∃ S' val, f_M_power_b74 (some 30) x y (gv_ov h S) = some (val, gv_ov h S') ∧ mX mB S S' ∧ mV (sp_pow x y) val S' := fun q => by
          have e74 : f_M_power_b74 (some 30) x y (gv_ov h S) = f_M_power_b95 gk_F (some 30) y (gI (fd_T (wr_y y)).toNat) 0x3ff0000000000000 x (gv_ov h S) := by
            unfold f_M_power_b74 f_M_power_b86
            rw [fi_ge _ _ hy.n fd_0_n, fd_k0, gk_let_eq, gk_let_eq, ← p1]
            unfold wr_y
            by_cases z : fd_k y < 0
            · rw [if_neg (by omega), if_pos z]
            · rw [if_pos (by omega), if_neg z]
          rw [e74, esp q]
          rcases mp_loop (h := h) y 12 _ gk_F 0x3ff0000000000000 x (Nat.lt_of_lt_of_le p2 (by decide)) (by unfold gk_F; omega) p3 fd_1_f hx hb with ⟨r, r1, r2, r3⟩ | ⟨r1, S', val, r2, r3, r4, r5⟩
          · rw [r3, r1]
            dsimp only
            unfold f_M_power_b168 f_M_power_b207
            rw [gg_30_11, hb, if_pos (show gI 0 = 0 from rfl), fi_ge _ _ hy.n fd_0_n, fi_eq _ _ r2.n fd_0_n, fd_k0]
            by_cases z : fd_k y < 0
            · rw [if_neg (show ¬ 0 ≤ fd_k y by omega), if_pos z]
              by_cases z2 : fd_k r = 0
              · rw [if_pos z2, if_pos z2, gc_30, gI_lit 6, m_fail 0 6 hb (by decide), gk_ca_some, bl_n]
                exact ⟨_, _, rfl, mX.I _ ⟨rfl, rfl⟩, mp_err rfl (by decide) (by decide) r2.n (gu_I2 _ _ _ _)⟩
              · have hd := fd_ddiv fd_1_f.n r2 z2
                obtain ⟨S', val, k1, k2, k3⟩ := m_stepV (h := h) hd hb
                rw [if_neg z2, if_neg z2, fd_dop hd, gc_30, k1, gk_ca_some]
                exact ⟨S', val, rfl, k2, k3⟩
            · rw [if_pos (show 0 ≤ fd_k y by omega), if_neg z]
              exact ⟨S, r, rfl, mX.refl _ _, hb, r2.n, fun _ => ⟨rfl, r2⟩⟩
          · rw [r2, r1]
            exact ⟨S', val, rfl, r3, mp_err rfl (by decide) (by decide) r5 r4⟩
        have b35 : ¬ (fd_k x = 0 ∧ fd_k y = 0) → ∃ S' val, f_M_power_b35 (some 30) x y (gv_ov h S) = some (val, gv_ov h S') ∧ mX mB S S' ∧ mV (sp_pow x y) val S' := fun q => by
          unfold f_M_power_b35 f_M_power_b40
          rw [if_neg (show ¬ (1 : Int32) = 0 from by decide), fi_eq _ _ hx.n fd_0_n, fi_ge _ _ hy.n fd_0_n, fd_k0]
          by_cases z : fd_k x = 0
          · rw [if_pos z]
            by_cases z2 : 0 ≤ fd_k y
            · rw [if_pos z2]
              exact b74 (fun w => by omega)
            · rw [if_neg z2]
              exact bad 2 (by decide) (by decide) _ (by
                unfold sp_pow
                rw [if_neg hg0, if_pos (show fd_k x = 0 ∧ fd_k y ≤ 0 from ⟨z, by omega⟩), if_neg (by omega)])
          · rw [if_neg z]
            exact b74 (fun w => z w.1)
        rw [if_pos (decide_eq_true c3), fi_eq _ _ hx.n fd_0_n, fi_eq _ _ hy.n fd_0_n, fd_k0]
        by_cases z : fd_k x = 0
        · rw [if_pos z]
          by_cases z2 : fd_k y = 0
          · rw [if_pos z2]
            exact b39 (by
              unfold sp_pow
              rw [if_neg hg0, if_pos (show fd_k x = 0 ∧ fd_k y ≤ 0 from ⟨z, by omega⟩), if_pos z2])
          · rw [if_neg z2]
            exact b35 (fun w => z2 w.2)
        · rw [if_neg z]
          exact b35 (fun w => z w.1)
      · rw [if_neg (by rw [decide_eq_false c3]; decide)]
        exact b39 (if_pos (Or.inr (Or.inr c3)))
end MP2
