/-! THE PURE PART: the reference's powers and steps -/
/-- what is reckoned: the number, or the error -/
def mV (c : gp_C) (val : UInt64) (S' : gv_S) : Prop := S'.1 30 11 = gI (sp_err c) ∧ fd_n val ∧ (sp_err c = 0 → c = gc_n val ∧ fd_f val)
section MPW
variable {h : gk_H} {S : gv_S} {f : Nat}
theorem sp_err_e (e : Nat) : sp_err (gc_e e) = e := rfl
theorem sp_err_n (x : UInt64) : sp_err (gc_n x) = 0 := rfl
theorem m_stepV {x : UInt64} (hx : fd_n x) (hb : S.1 30 11 = gI 0) : ∃ S' val, f_M_step (some 30) x (gv_ov h S) = some (val, gv_ov h S') ∧ mX mB S S' ∧ mV (gc_num x) val S' := by
  obtain ⟨S', e1, e2, e3⟩ := m_step (h := h) hx hb (by decide)
  rw [bl_n] at e3
  refine ⟨S', _, e1, e2, ?_⟩
  by_cases z : fin x
  · rw [if_pos z] at e3 ⊢
    rw [gc_num_f z]
    exact ⟨e3, hx, fun _ => ⟨rfl, (fin_f hx).mp z⟩⟩
  · rw [if_neg z] at e3 ⊢
    rw [gc_num_i z]
    exact ⟨e3, fd_0_n, fun q => by cases q⟩
theorem m_stepF {x : UInt64} (hx : fd_n x) (z : fin x) : f_M_step (some 30) x (gv_ov h S) = some (x, gv_ov h S) := by
  unfold f_M_step
  rw [m_endless hx, gk_ca_some, ite_B, decide_eq_true z, if_neg (by decide)]
theorem m_stepI {x : UInt64} (hx : fd_n x) (z : ¬ fin x) (hb : S.1 30 11 = gI 0) : f_M_step (some 30) x (gv_ov h S) = some (0, gv_ov h (gv_uI S 30 11 (gI 6))) := by
  unfold f_M_step
  rw [m_endless hx, gk_ca_some, ite_B, decide_eq_false z, if_pos (by decide), gc_30, gI_lit 6, m_fail 0 6 hb (by decide), gk_ca_some, bl_n]
theorem b168_bad {y v : UInt64} (hv : fd_n v) {e : Nat} (he : 1 ≤ e) (he8 : e ≤ 8) (hb : S.1 30 11 = gI e) : f_M_power_b168 (some 30) y v (gv_ov h S) = some (v, gv_ov h S) := by
  unfold f_M_power_b168 f_M_power_b207
  have z0 : ∀ {β : Type} (x y : β), (if gI e = (0 : Int32) then x else y) = if e = 0 then x else y := fun x y => ite_eq x y e 0 (by omega) (by decide)
  rw [gg_30_11, hb, z0, if_neg (by omega)]
theorem b95_bad {y v b : UInt64} (hv : fd_n v) {e : Nat} (he : 1 ≤ e) (he8 : e ≤ 8) (hb : S.1 30 11 = gI e) (n fu : Nat) (hn : n < 2000) (hf : 0 < fu) : f_M_power_b95 fu (some 30) y (gI n) v b (gv_ov h S) = some (v, gv_ov h S) := by
  obtain ⟨fu, rfl⟩ : ∃ f, fu = f + 1 := ⟨fu - 1, by omega⟩
  have z0 : ∀ {β : Type} (x y : β), (if gI e = (0 : Int32) then x else y) = if e = 0 then x else y := fun x y => ite_eq x y e 0 (by omega) (by decide)
  rw [f_M_power_b95]
  dsimp only
  rw [gg_30_11, hb, z0, if_neg (show ¬ e = 0 by omega), b168_bad hv he he8 hb]
  split <;> rfl
theorem mp_loop (y : UInt64) : ∀ (k e fu : Nat) (r b : UInt64), e < 2 ^ k → k + 1 < fu → e < 2000 → fd_f r → fd_f b → S.1 30 11 = gI 0 → (∃ w, pwl k e r b = some w ∧ fd_f w ∧ f_M_power_b95 fu (some 30) y (gI e) r b (gv_ov h S) = f_M_power_b168 (some 30) y w (gv_ov h S)) ∨ (pwl k e r b = none ∧ ∃ S' val, f_M_power_b95 fu (some 30) y (gI e) r b (gv_ov h S) = some (val, gv_ov h S') ∧ mX mB S S' ∧ S'.1 30 11 = gI 6 ∧ fd_n val) := by
  intro k
  have le0 : ∀ (q : Nat), q < 2000 → ∀ {β : Type} (x y : β), (if gI q ≤ (0 : Int32) then x else y) = if q ≤ 0 then x else y := fun q hq _ x y => ite_le x y q 0 (by omega) (by decide)
  induction k with
  | zero =>
    intro e fu r b he hf h2 hr hb hS
    obtain ⟨fu, rfl⟩ : ∃ f, fu = f + 1 := ⟨fu - 1, by omega⟩
    have e0 : e = 0 := by
      have : e < 1 := he
      omega
    subst e0
    refine Or.inl ⟨r, rfl, hr, ?_⟩
    rw [f_M_power_b95]
    dsimp only
    rw [if_pos (by decide)]
  | succ k ih =>
    intro e fu r b he hf h2 hr hb hS
    obtain ⟨fu, rfl⟩ : ∃ f, fu = f + 1 := ⟨fu - 1, by omega⟩
    have e2k : 2 ^ (k + 1) = 2 ^ k * 2 := Nat.pow_succ 2 k
    rw [f_M_power_b95, pwl]
    dsimp only
    rw [le0 e h2]
    by_cases z : e = 0
    · rw [if_pos (show e ≤ 0 by omega), if_pos z]
      exact Or.inl ⟨r, rfl, hr, rfl⟩
    · obtain ⟨d1, d2⟩ := gN_div2 e h2
      rw [if_neg (show ¬ e ≤ 0 by omega), if_neg z, gg_30_11, hS, if_pos (show gI 0 = 0 from rfl)]
      -- behind the product
      have b129 : ∀ v : UInt64, fd_f v → (∃ w, (if e ≤ 1 then some v else if -9218868437227405311 ≤ fd_k (FP.dmul b b) ∧ fd_k (FP.dmul b b) ≤ 9218868437227405311 then pwl k (e / 2) v (FP.dmul b b) else none) = some w ∧ fd_f w ∧ f_M_power_b129 (f_M_power_b95 fu) (some 30) y (gI e) b v (gv_ov h S) = f_M_power_b168 (some 30) y w (gv_ov h S)) ∨ ((if e ≤ 1 then some v else if -9218868437227405311 ≤ fd_k (FP.dmul b b) ∧ fd_k (FP.dmul b b) ≤ 9218868437227405311 then pwl k (e / 2) v (FP.dmul b b) else none) = none ∧ ∃ S' val, f_M_power_b129 (f_M_power_b95 fu) (some 30) y (gI e) b v (gv_ov h S) = some (val, gv_ov h S') ∧ mX mB S S' ∧ S'.1 30 11 = gI 6 ∧ fd_n val) := by
        intro v hv
        unfold f_M_power_b129 f_M_power_b161 f_M_power_b163
        rw [gk_let_eq, d1, le0 _ (by omega)]
        by_cases z1 : e ≤ 1
        · rw [if_pos z1, if_pos (show e / 2 ≤ 0 by omega)]
          refine Or.inl ⟨v, rfl, hv, ?_⟩
          obtain ⟨fu, rfl⟩ : ∃ f, fu = f + 1 := ⟨fu - 1, by omega⟩
          rw [f_M_power_b95]
          dsimp only
          rw [le0 _ (by omega), if_pos (show e / 2 ≤ 0 by omega)]
        · have hbb := fd_mul_n hb hb
          rw [if_neg z1, if_neg (show ¬ e / 2 ≤ 0 by omega), gg_30_11, hS, if_pos (show gI 0 = 0 from rfl), fd_dop hbb, gc_30]
          by_cases z2 : fin (FP.dmul b b)
          · rw [m_stepF hbb z2, gk_ca_some, if_pos (show -9218868437227405311 ≤ fd_k (FP.dmul b b) ∧ fd_k (FP.dmul b b) ≤ 9218868437227405311 from z2)]
            exact ih (e / 2) fu v (FP.dmul b b) (by omega) (by omega) (by omega) hv ((fin_f hbb).mp z2) hS
          · rw [m_stepI hbb z2 hS, gk_ca_some, if_neg (show ¬ (-9218868437227405311 ≤ fd_k (FP.dmul b b) ∧ fd_k (FP.dmul b b) ≤ 9218868437227405311) from z2), b95_bad (e := 6) hv.n (by decide) (by decide) (gu_I2 _ _ _ _) _ fu (by omega) (by omega)]
            exact Or.inr ⟨rfl, _, v, rfl, mX.I _ ⟨rfl, rfl⟩, gu_I2 _ _ _ _, hv.n⟩
      by_cases odd : e % 2 = 1
      · have hrb := fd_mul_n hr hb
        rw [if_pos (d2.mpr odd), if_pos odd, fd_dop hrb, gc_30]
        by_cases z2 : fin (FP.dmul r b)
        · rw [m_stepF hrb z2, gk_ca_some, if_pos (show -9218868437227405311 ≤ fd_k (FP.dmul r b) ∧ fd_k (FP.dmul r b) ≤ 9218868437227405311 from z2)]
          exact b129 _ ((fin_f hrb).mp z2)
        · rw [m_stepI hrb z2 hS, gk_ca_some, if_neg (show ¬ (-9218868437227405311 ≤ fd_k (FP.dmul r b) ∧ fd_k (FP.dmul r b) ≤ 9218868437227405311) from z2)]
          refine Or.inr ⟨rfl, gv_uI S 30 11 (gI 6), 0, ?_, mX.I _ ⟨rfl, rfl⟩, gu_I2 _ _ _ _, fd_0_n⟩
          unfold f_M_power_b129 f_M_power_b161 f_M_power_b163
          have z6 : ∀ {β : Type} (x y : β), (if gI 6 = (0 : Int32) then x else y) = y := fun x y => if_neg (by decide)
          rw [gk_let_eq, d1, gg_30_11, gu_I2, z6, b95_bad (e := 6) fd_0_n (by decide) (by decide) (gu_I2 _ _ _ _) _ fu (by omega) (by omega)]
          split <;> rfl
      · rw [if_neg (fun q => odd (d2.mp q)), if_neg odd, if_pos (show -9218868437227405311 ≤ fd_k r ∧ fd_k r ≤ 9218868437227405311 from (fin_f hr.n).mpr hr)]
        exact b129 r hr
end MPW
