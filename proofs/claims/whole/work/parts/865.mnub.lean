/-! THE PURE PART: the reference's functions of numbers: their reckoning -/
theorem s_tr_fc {q : UInt64} (hq : fd_n q) : s_tr q = if fd_k q < 0 then s_ce q else s_fl q := by
  unfold s_tr s_ce s_fl
  by_cases z : -4845873199050653696 < fd_k q ∧ fd_k q < 4845873199050653696
  · rw [if_pos z, if_pos z, if_pos z, fd_d2lT hq z]
    by_cases w : fd_k q < 0
    · obtain ⟨t1, t2, t3⟩ := fd_T_neg (a := q) (by have := (fd_kv_0 hq).2.1.mp w; omega)
      rw [if_pos w, fd_ce_T, if_neg (by omega)]
    · obtain ⟨t1, t2, t3⟩ := fd_T_pos (a := q) ((fd_kv_0 hq).2.2.2.mp (by omega))
      rw [if_neg w, fd_fl_T, if_neg (by omega)]
  · rw [if_neg z, if_neg z, if_neg z]
    split <;> rfl
theorem fd_inf_sub {x p : UInt64} (hx : fd_f x) (hp : fd_n p) (hi : ¬ fd_f p) : fd_n (FP.dsub x p) ∧ ¬ fd_f (FP.dsub x p) := by
  obtain ⟨s, e⟩ := fd_inf hp hi
  obtain ⟨t, d, r, e2⟩ := hx
  have hv : FP.Core.val64 (FP.dsub x p) = FP.Core.round FP.Core.b64 (FP.Core.exactSum (FP.Core.val64 x) (FP.Core.negate (FP.Core.val64 p))) := FP.Core.val64_dsub x p
  rw [e, e2] at hv
  exact fd_inf_n (s := !s) hv
theorem fd_inf_add {x p : UInt64} (hx : fd_f x) (hp : fd_n p) (hi : ¬ fd_f p) : fd_n (FP.dadd x p) ∧ ¬ fd_f (FP.dadd x p) := by
  obtain ⟨s, e⟩ := fd_inf hp hi
  obtain ⟨t, d, r, e2⟩ := hx
  have hv : FP.Core.val64 (FP.dadd x p) = FP.Core.round FP.Core.b64 (FP.Core.exactSum (FP.Core.val64 x) (FP.Core.val64 p)) := FP.Core.val64_dadd x p
  rw [e, e2] at hv
  exact fd_inf_n (s := s) hv
theorem fd_inf_add' {x p : UInt64} (hx : fd_f x) (hp : fd_n p) (hi : ¬ fd_f p) : fd_n (FP.dadd p x) ∧ ¬ fd_f (FP.dadd p x) := by
  obtain ⟨s, e⟩ := fd_inf hp hi
  obtain ⟨t, d, r, e2⟩ := hx
  have hv : FP.Core.val64 (FP.dadd p x) = FP.Core.round FP.Core.b64 (FP.Core.exactSum (FP.Core.val64 p) (FP.Core.val64 x)) := FP.Core.val64_dadd p x
  rw [e, e2] at hv
  exact fd_inf_n (s := s) hv
theorem fin_nf {x : UInt64} (hx : fd_n x) (z : ¬ fin x) : ¬ fd_f x := fun w => z ((fin_f hx).mpr w)
theorem nf_fin {x : UInt64} (hx : fd_n x) (z : ¬ fd_f x) : ¬ fin x := fun w => z ((fin_f hx).mp w)
section MNU
variable {h : gk_H} {S S0 S1 : gv_S} {c : gp_C} {vl x y : UInt64} {e : Nat}
theorem m_divC (hx : fd_f x) (hy : fd_f y) (hb : S.1 30 11 = gI 0) : (fd_k y = 0 ∧ f_M_divide (some 30) x y (gv_ov h S) = some (0, gv_ov h (gv_uI S 30 11 (gI 2)))) ∨ (fd_k y ≠ 0 ∧ fd_n (FP.ddiv x y) ∧ fin (FP.ddiv x y) ∧ f_M_divide (some 30) x y (gv_ov h S) = some (FP.ddiv x y, gv_ov h S)) ∨ (fd_k y ≠ 0 ∧ fd_n (FP.ddiv x y) ∧ ¬ fin (FP.ddiv x y) ∧ f_M_divide (some 30) x y (gv_ov h S) = some (0, gv_ov h (gv_uI S 30 11 (gI 6)))) := by
  unfold f_M_divide
  rw [fi_eq _ _ hy.n fd_0_n, fd_k0]
  by_cases z : fd_k y = 0
  · rw [if_pos z, gc_30, gI_lit 2, m_fail 0 2 hb (by decide), gk_ca_some, bl_n]
    exact Or.inl ⟨z, rfl⟩
  · have hd := fd_ddiv hx.n hy z
    rw [if_neg z, fd_dop hd, gc_30]
    by_cases w : fin (FP.ddiv x y)
    · rw [m_stepF hd w, gk_ca_some]
      exact Or.inr (Or.inl ⟨z, hd, w, rfl⟩)
    · rw [m_stepI hd w hb, gk_ca_some]
      exact Or.inr (Or.inr ⟨z, hd, w, rfl⟩)
theorem mNv.fl (e : Nat) (hv : fd_n vl) (h1 : e ≠ 0) (h8 : e ≤ 8) : mNv h S (some (vl, gv_ov h (gv_uI S 30 11 (gI e)))) (gc_e e) := mNv.bad hv (mX.I _ ⟨rfl, rfl⟩) (gu_I2 _ _ _ _) h1 h8
theorem gu11 (e : Nat) : (gv_uI S 30 11 (gI e)).1 30 11 = gI e := gu_I2 _ _ _ _
theorem bad_gt (e : Nat) (h1 : e ≠ 0) (h8 : e ≤ 8) {β : Sort _} (x y : β) : (if gI e ≤ (0 : Int32) then x else y) = y := by
  rw [itl0 e h8, if_neg h1]
theorem mo_modulo (hx : fd_f x) (hy : fd_f y) (hb : S.1 30 11 = gI 0) : mNv h S (f_M_modulo (some 30) x y (gv_ov h S)) (sp_mod x y) := by
  unfold f_M_modulo f_M_modulo_b49 sp_mod
  rcases m_divC (h := h) hx hy hb with ⟨z, d⟩ | ⟨z, hd, w, d⟩ | ⟨z, hd, w, d⟩
  · rw [gc_30, d, gk_ca_some, gg_30_11, gu11, bad_gt 2 (by decide) (by decide), if_pos z]
    exact mNv.fl 2 fd_0_n (by decide) (by decide)
  · have hf := (fin_f hd).mp w
    have hm := fd_mul_n hy (s_fl_f hf)
    rw [gc_30, d, gk_ca_some, gg_30_11, hb, itl0 0 (by decide), if_pos rfl, mo_floor hd, gk_ca_some, fd_dop hm, gc_30, if_neg z, if_pos w]
    by_cases v : fin (FP.dmul y (s_fl (FP.ddiv x y)))
    · have hs := fd_sub_n hx ((fin_f hm).mp v)
      rw [m_stepF hm v, gk_ca_some, gg_30_11, hb, itl0 0 (by decide), if_pos rfl, fd_dop hs, gc_30]
      obtain ⟨S', r, k1, k2, k3⟩ := m_stepV (h := h) hs hb
      rw [k1, gk_ca_some]
      exact ⟨S', r, rfl, k2, k3⟩
    · obtain ⟨i1, i2⟩ := fd_inf_sub hx hm (fin_nf hm v)
      rw [m_stepI hm v hb, gk_ca_some, gg_30_11, gu11, bad_gt 6 (by decide) (by decide), gc_num_i (nf_fin i1 i2)]
      exact mNv.fl 6 fd_0_n (by decide) (by decide)
  · rw [gc_30, d, gk_ca_some, gg_30_11, gu11, bad_gt 6 (by decide) (by decide), if_neg z, if_neg w]
    exact mNv.fl 6 fd_0_n (by decide) (by decide)
theorem s_ce_n {x : UInt64} (hx : fd_n x) : fd_n (s_ce x) := by
  unfold s_ce
  split
  · exact (fd_l2df _).n
  · exact hx
theorem s_tr_fin {q : UInt64} (hq : fd_n q) : fin (s_tr q) ↔ fin q := by
  unfold s_tr
  split
  · rename_i z
    exact ⟨fun _ => ⟨by omega, by omega⟩, fun _ => (fin_f (fd_l2df _).n).mpr (fd_l2df _)⟩
  · exact Iff.rfl
theorem mo_quotient (hx : fd_f x) (hy : fd_f y) (hb : S.1 30 11 = gI 0) : mNv h S (gk_cv (gv_ov h S) (some 30) 7 (f_M_divide (some 30) x y (gv_ov h S)) fun x5 h5 => if 0 ≤ (Op.cmpValue (FP.dcmp x5 (0x0000000000000000)) .g) then (gk_ca (f_M_floor x5 h5) fun x6 h6 => f_M_simple_b106 x6 h6) else (gk_ca (f_M_ceiling x5 h5) fun x7 h7 => f_M_simple_b106 x7 h7)) (sp_quo x y) := by
  have tail : ∀ (q : UInt64) (T : gv_S), fd_n q → (if 0 ≤ (Op.cmpValue (FP.dcmp q (0x0000000000000000)) .g) then (gk_ca (f_M_floor q (gv_ov h T)) fun x6 h6 => f_M_simple_b106 x6 h6) else (gk_ca (f_M_ceiling q (gv_ov h T)) fun x7 h7 => f_M_simple_b106 x7 h7)) = some (s_tr q, gv_ov h T) := fun q T hq => by
    unfold f_M_simple_b106
    rw [fi_ge _ _ hq fd_0_n, fd_k0, mo_floor hq, mo_ceiling hq, gk_ca_some, gk_ca_some, s_tr_fc hq]
    by_cases z : fd_k q < 0
    · rw [if_neg (show ¬ 0 ≤ fd_k q by omega), if_pos z]
    · rw [if_pos (show 0 ≤ fd_k q by omega), if_neg z]
  unfold sp_quo
  rcases m_divC (h := h) hx hy hb with ⟨z, d⟩ | ⟨z, hd, w, d⟩ | ⟨z, hd, w, d⟩
  · rw [gc_30, d, gk_ca_some, tail _ _ fd_0_n, if_pos z]
    exact mNv.fl 2 (s_tr_n fd_0_n) (by decide) (by decide)
  · rw [gc_30, d, gk_ca_some, tail _ _ hd, if_neg z, gc_num_f ((s_tr_fin hd).mpr w)]
    exact mNv.val ((fin_f (s_tr_n hd)).mp ((s_tr_fin hd).mpr w)) hb
  · rw [gc_30, d, gk_ca_some, tail _ _ fd_0_n, if_neg z, gc_num_i (fun q => w ((s_tr_fin hd).mp q))]
    exact mNv.fl 6 (s_tr_n fd_0_n) (by decide) (by decide)
theorem mNv.pow (hx : fd_f x) (hy : fd_f y) (hb : S.1 30 11 = gI 0) : mNv h S (f_M_power (some 30) x y (gv_ov h S)) (sp_pow x y) := by
  obtain ⟨S', r, k1, k2, k3⟩ := mp_power (h := h) hx hy hb
  exact ⟨S', r, k1, k2, k3⟩
/-- what functions 19 to 24 reckon -/
def sp_sim (f : Nat) (x y : UInt64) : gp_C := if f = 19 then gc_n (wr_y x) else if f = 20 then gc_n (FP.i2d (gN (s_sg x))) else if f = 21 then gc_n (s_fl x) else if f = 22 then sp_pow x y else if f = 23 then sp_mod x y else sp_quo x y
theorem isR.n (x : UInt64) : isR (gc_n x) := Or.inl ⟨x, rfl⟩
theorem isR.mod (x y : UInt64) : isR (sp_mod x y) := by
  unfold sp_mod
  split
  · exact isR.e (by decide) (by decide)
  · split
    · exact isR.num _
    · exact isR.e (by decide) (by decide)
theorem isR.quo (x y : UInt64) : isR (sp_quo x y) := by
  unfold sp_quo
  split
  · exact isR.e (by decide) (by decide)
  · exact isR.num _
theorem isR.sim (f : Nat) (x y : UInt64) : isR (sp_sim f x y) := by
  unfold sp_sim
  split
  · exact isR.n _
  · split
    · exact isR.n _
    · split
      · exact isR.n _
      · split
        · exact isR.pow x y
        · split
          · exact isR.mod x y
          · exact isR.quo x y
theorem mo_simple (hx : fd_f x) (hy : fd_f y) (f : Nat) (h1 : 19 ≤ f) (h2 : f ≤ 24) (hb : S.1 30 11 = gI 0) : mNv h S (f_M_simple (some 30) (gI f) x y (gv_ov h S)) (sp_sim f x y) := by
  have hfs : f = 19 ∨ f = 20 ∨ f = 21 ∨ f = 22 ∨ f = 23 ∨ f = 24 := by omega
  unfold f_M_simple sp_sim
  rcases hfs with rfl | rfl | rfl | rfl | rfl | rfl
  · have e : ∀ s : UInt64, f_M_simple_b48 s (gv_ov h S) = some (s, gv_ov h S) := fun _ => rfl
    rw [if_pos (by decide), if_pos rfl, fi_ge _ _ hx.n fd_0_n, fd_k0, e, e]
    unfold wr_y
    by_cases z : fd_k x < 0
    · rw [if_neg (show ¬ 0 ≤ fd_k x by omega), if_pos z]
      exact mNv.val ((fd_dneg hx.n).2.2.2 hx) hb
    · rw [if_pos (show 0 ≤ fd_k x by omega), if_neg z]
      exact mNv.val hx hb
  · rw [if_neg (by decide), if_pos (by decide), if_neg (by decide), if_pos rfl, mc_num hx.n fd_0_n, gk_ca_some, fd_k0]
    exact mNv.val (fd_i2df _) hb
  · rw [if_neg (by decide), if_neg (by decide), if_pos (by decide), if_neg (by decide), if_neg (by decide), if_pos rfl, mo_floor hx.n, gk_ca_some]
    exact mNv.val (s_fl_f hx) hb
  · rw [if_neg (by decide), if_neg (by decide), if_neg (by decide), if_pos (by decide), if_neg (by decide), if_neg (by decide), if_neg (by decide), if_pos rfl, gc_30]
    obtain ⟨S', r, k1, k2, k3⟩ := mNv.pow (h := h) hx hy hb
    rw [k1, gk_ca_some]
    exact ⟨S', r, rfl, k2, k3⟩
  · rw [if_neg (by decide), if_neg (by decide), if_neg (by decide), if_neg (by decide), if_pos (by decide), if_neg (by decide), if_neg (by decide), if_neg (by decide), if_neg (by decide), if_pos rfl, gc_30]
    obtain ⟨S', r, k1, k2, k3⟩ := mo_modulo (h := h) hx hy hb
    rw [k1, gk_ca_some]
    exact ⟨S', r, rfl, k2, k3⟩
  · rw [if_neg (by decide), if_neg (by decide), if_neg (by decide), if_neg (by decide), if_neg (by decide), if_neg (by decide), if_neg (by decide), if_neg (by decide), if_neg (by decide), if_neg (by decide)]
    exact mo_quotient hx hy hb
end MNU
