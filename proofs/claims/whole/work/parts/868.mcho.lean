/-! THE PURE PART: the reference's factorials, combinations -/
theorem s_fac_inf : ∀ k j r, 1 ≤ j → j + k < 2147483648 → fd_n r → ¬ fd_f r → ¬ fin (s_fac k j r)
  | 0, _, _, _, _, h, h2 => fun w => h2 ((fin_f h).mp w)
  | k + 1, j, r, h1, h2, h, hi => by
    obtain ⟨a1, a2⟩ := fd_i2nz h1 (by omega)
    obtain ⟨b1, b2⟩ := fd_inf_mul h hi a1 a2
    exact s_fac_inf k (j + 1) _ (by omega) (by omega) b1 b2
theorem s_com_inf (a : Nat) (ha : a < 2000) : ∀ k j r, 1 ≤ j → j + k < 4000 → fd_n r → ¬ fd_f r → ¬ fin (s_com a k j r)
  | 0, _, _, _, _, h, h2 => fun w => h2 ((fin_f h).mp w)
  | k + 1, j, r, h1, h2, h, hi => by
    obtain ⟨a1, a2⟩ := fd_i2nz h1 (by omega)
    obtain ⟨c1, c2⟩ := fd_l2nz (j := a + j) (by omega) (by omega)
    obtain ⟨b1, b2⟩ := fd_inf_mul h hi c1 c2
    obtain ⟨d1, d2⟩ := fd_inf_div b1 b2 a1 a2
    exact s_com_inf a ha k (j + 1) _ (by omega) (by omega) d1 d2
theorem l2d_i2d {j : Nat} (h1 : 1 ≤ j) (h2 : j < 2147483648) : FP.l2d (gJ (j : Int)) = FP.i2d (gI j) := by
  have e1 := fd_l2d (z := (j : Int)) (by omega) (by omega)
  have e2 := fd_i2dI h2
  exact fd_k_inj ((fd_i.eq e1 e2).mpr rfl) (fun z => by
    have := (fd_i.eq e1 fd_i0).mp (by rw [z]; rfl)
    omega)
section MCH
variable {h : gk_H} {S S0 S1 : gv_S} {c : gp_C} {vl x y : UInt64} {e a n : Nat} {vs : Nat → gp_V}
theorem mch_183 (hx : fd_f x) (q : mX mSt S0 S) (hb : S.1 30 11 = gI 0) : mF h S0 (f_M_choosing_b183 (some 30) x (gv_ov h S)) (gV_1 (gc_num x)) := by
  unfold f_M_choosing_b183
  rw [gc_30, gu_idU, gc_num_f ((fin_f hx.n).mpr hx)]
  exact mF.ansN hx q hb
theorem mch_183e (hx : fd_n x) (q : mX mSt S0 S) (hb : S.1 30 11 = gI 6) : mF h S0 (f_M_choosing_b183 (some 30) x (gv_ov h S)) (gV_1 (gc_e 6)) := by
  unfold f_M_choosing_b183
  rw [gc_30, gu_idU]
  exact mF.ansE hx q hb (by decide) (by decide)
/-- a loop that has failed -/
theorem mch_91e (hx : fd_n x) (q : mX mSt S0 S) (hb : S.1 30 11 = gI 6) (f fu : Nat) (m k j : Int64) : mF h S0 (f_M_choosing_b91 (fu + 1) (some 30) (gI f) m k x j (gv_ov h S)) (gV_1 (gc_e 6)) := by
  have b105 : ∀ (g : Option Nat → Int32 → Int64 → Int64 → UInt64 → Int64 → gk_H → Option (Unit × gk_H)) (s0 s1 : Int64), mF h S0 (f_M_choosing_b105 g (some 30) (gI f) m k x j s0 s1 (gv_ov h S)) (gV_1 (gc_e 6)) := fun g s0 s1 => by
    unfold f_M_choosing_b105
    have e1 := mch_183e (h := h) hx q hb
    rw [gg_30_11, hb, ite0 6 (by decide), if_neg (show ¬ (6 = 0) by decide)]
    split <;> exact e1
  rw [f_M_choosing_b91]
  dsimp only
  split <;> exact b105 _ _ _
theorem mch_27 (m : Nat) (hm : m ≤ 170) (k : Int64) : ∀ (t j fu : Nat) (r : UInt64) (T : gv_S), j + t = m + 1 → t + 1 < fu → 1 ≤ j → fd_f r → T.1 30 11 = gI 0 → mX mSt S0 T → mF h S0 (f_M_choosing_b91 fu (some 30) (gI 27) (gJ (m : Int)) k r (gJ (j : Int)) (gv_ov h T)) (gV_1 (gc_num (s_fac t j r))) := by
  intro t
  induction t with
  | zero =>
    intro j fu r T hj hf h1 hr hb q
    obtain ⟨fu, rfl⟩ : ∃ f, fu = f + 1 := ⟨fu - 1, by omega⟩
    rw [f_M_choosing_b91]
    dsimp only
    unfold f_M_choosing_b105
    rw [if_pos (show gI 27 = (27 : Int32) from rfl), jte_gt _ _ _ _ (by omega) (by omega) (by omega) (by omega), if_pos (by omega)]
    exact mch_183 hr q hb
  | succ t ih =>
    intro j fu r T hj hf h1 hr hb q
    obtain ⟨fu, rfl⟩ : ∃ f, fu = f + 1 := ⟨fu - 1, by omega⟩
    obtain ⟨a1, a2⟩ := fd_i2nz (j := j) h1 (by omega)
    have hm := fd_mul_n hr a1
    rw [f_M_choosing_b91]
    dsimp only
    unfold f_M_choosing_b105 f_M_choosing_b137 f_M_choosing_b170 f_M_choosing_b172
    rw [if_pos (show gI 27 = (27 : Int32) from rfl), jte_gt _ _ _ _ (by omega) (by omega) (by omega) (by omega), if_neg (by omega), gg_30_11, hb, ite0 0 (by decide), if_pos rfl, if_pos (show gI 27 = (27 : Int32) from rfl), l2d_i2d h1 (by omega), fd_dop hm, gc_30]
    by_cases z : fin (FP.dmul r (FP.i2d (gI j)))
    · rw [m_stepF hm z, gk_ca_some, if_neg (show ¬ (gI 27 = (28 : Int32)) by decide), gk_let_eq, show gJ (j : Int) + (1 : Int64) = gJ ((j + 1 : Nat) : Int) from gJ_add _ 1]
      exact ih (j + 1) fu _ T (by omega) (by omega) (by omega) ((fin_f hm).mp z) hb q
    · rw [m_stepI hm z hb, gk_ca_some, if_neg (show ¬ (gI 27 = (28 : Int32)) by decide), gk_let_eq]
      have e6 : gc_num (s_fac (t + 1) j r) = gc_e 6 := gc_num_i (s_fac_inf t (j + 1) _ (by omega) (by omega) hm (fin_nf hm z))
      obtain ⟨fu, rfl⟩ : ∃ f, fu = f + 1 := ⟨fu - 1, by omega⟩
      rw [e6]
      exact mch_91e fd_0_n (q.trans (mX.I _ (mB_st ⟨rfl, rfl⟩))) (gu11 6) _ _ _ _ _
theorem mch_28 (m k : Nat) (hm : m ≤ 1000) (hk : k ≤ m) : ∀ (t j fu : Nat) (r : UInt64) (T : gv_S), j + t = k + 1 → t + 1 < fu → 1 ≤ j → fd_f r → T.1 30 11 = gI 0 → mX mSt S0 T → mF h S0 (f_M_choosing_b91 fu (some 30) (gI 28) (gJ (m : Int)) (gJ (k : Int)) r (gJ (j : Int)) (gv_ov h T)) (gV_1 (gc_num (s_com (m - k) t j r))) := by
  intro t
  induction t with
  | zero =>
    intro j fu r T hj hf h1 hr hb q
    obtain ⟨fu, rfl⟩ : ∃ f, fu = f + 1 := ⟨fu - 1, by omega⟩
    rw [f_M_choosing_b91]
    dsimp only
    unfold f_M_choosing_b105
    rw [if_neg (show ¬ (gI 28 = (27 : Int32)) by decide), jte_gt _ _ _ _ (by omega) (by omega) (by omega) (by omega), if_pos (by omega)]
    exact mch_183 hr q hb
  | succ t ih =>
    intro j fu r T hj hf h1 hr hb q
    obtain ⟨fu, rfl⟩ : ∃ f, fu = f + 1 := ⟨fu - 1, by omega⟩
    obtain ⟨a1, a2⟩ := fd_i2nz (j := j) h1 (by omega)
    obtain ⟨c1, c2⟩ := fd_l2nz (j := m - k + j) (by omega) (by omega)
    have hm' := fd_mul_n hr c1
    have hd := fd_ddiv hm' a1 a2
    have ea : (gJ (m : Int) - gJ (k : Int)) + gJ (j : Int) = gJ ((m - k + j : Nat) : Int) := by
      rw [gJ_sub, gJ_add]
      congr 1
      omega
    have e6 : ¬ fin (FP.ddiv (FP.dmul r (FP.l2d (gJ ((m - k + j : Nat) : Int)))) (FP.i2d (gI j))) → gc_num (s_com (m - k) (t + 1) j r) = gc_e 6 := fun z => gc_num_i (s_com_inf (m - k) (by omega) t (j + 1) _ (by omega) (by omega) hd (fin_nf hd z))
    obtain ⟨fu, rfl⟩ : ∃ f, fu = f + 1 := ⟨fu - 1, by omega⟩
    rw [f_M_choosing_b91]
    dsimp only
    unfold f_M_choosing_b105 f_M_choosing_b137 f_M_choosing_b170 f_M_choosing_b172
    rw [if_neg (show ¬ (gI 28 = (27 : Int32)) by decide), jte_gt _ _ _ _ (by omega) (by omega) (by omega) (by omega), if_neg (by omega), gg_30_11, hb, ite0 0 (by decide), if_pos rfl, if_neg (show ¬ (gI 28 = (27 : Int32)) by decide), ea, fd_dop hm', gc_30]
    by_cases z : fin (FP.dmul r (FP.l2d (gJ ((m - k + j : Nat) : Int))))
    · rw [m_stepF hm' z, gk_ca_some, if_pos (show gI 28 = (28 : Int32) from rfl), gg_30_11, hb, ite0 0 (by decide), if_pos rfl, l2d_i2d h1 (by omega), fd_dop hd, gc_30]
      by_cases z2 : fin (FP.ddiv (FP.dmul r (FP.l2d (gJ ((m - k + j : Nat) : Int)))) (FP.i2d (gI j)))
      · rw [m_stepF hd z2, gk_ca_some, gk_let_eq, show gJ (j : Int) + (1 : Int64) = gJ ((j + 1 : Nat) : Int) from gJ_add _ 1]
        exact ih (j + 1) (fu + 1) _ T (by omega) (by omega) (by omega) ((fin_f hd).mp z2) hb q
      · rw [m_stepI hd z2 hb, gk_ca_some, gk_let_eq, e6 z2]
        exact mch_91e fd_0_n (q.trans (mX.I _ (mB_st ⟨rfl, rfl⟩))) (gu11 6) _ _ _ _ _
    · obtain ⟨d1, d2⟩ := fd_inf_div hm' (fin_nf hm' z) a1 a2
      rw [m_stepI hm' z hb, gk_ca_some, if_pos (show gI 28 = (28 : Int32) from rfl), gg_30_11, gu11, ite0 6 (by decide), if_neg (by decide), gk_let_eq, e6 (nf_fin d1 d2)]
      exact mch_91e fd_0_n (q.trans (mX.I _ (mB_st ⟨rfl, rfl⟩))) (gu11 6) _ _ _ _ _
/-- whole numbers wanted -/
theorem m_whoW {k f : Nat} (g : mG S a vs n) (hk : k < n) (hb : S.1 30 11 = gI f) (hf : f ≤ 8) : ∃ S', f_M_wantWhole (some 30) (gI (a + k)) (gv_ov h S) = some (gJ (if f = 0 then sw_x vs k else 0), gv_ov h S') ∧ mX mQ S S' ∧ S'.1 30 11 = gI (bl f (sW vs k)) := by
  obtain ⟨S', e1, e2, e3⟩ := m_wantWhole (h := h) (g.2 k hk) (by have := g.1; omega) hb hf
  refine ⟨S', ?_, e2, e3⟩
  rw [e1, (sw_x_b (g.ok hk)).2.2.1]
  by_cases z : f = 0
  · rw [if_pos z, if_pos z]
  · rw [if_neg z, if_neg z]
    rfl
theorem m_numN {k f : Nat} (g : mG S a vs n) (hk : k < n) (hb : S.1 30 11 = gI f) (hf : f ≤ 8) : ∃ S', f_M_wantNumber (some 30) (gI (a + k)) (gv_ov h S) = some (if f = 0 then (sN vs k).2 else 0, gv_ov h S') ∧ mX mQ S S' ∧ S'.1 30 11 = gI (bl f (sN vs k).1) := m_wantNumber (h := h) (g.2 k hk) (by have := g.1; omega) hb hf
theorem mo_choosing (g : mG S a vs n) (hb : S.1 30 11 = gI 0) (f : Nat) (hf : f = 27 ∨ f = 28) (hn : f = 28 → 2 ≤ n) (hn1 : 1 ≤ n) : mF h S (f_M_choosing (some 30) (gI f) (gI a) (gv_ov h S)) (gV_1 (if f = 27 then sx (sW vs 0) (sp_fac (sw_x vs 0)) else sx (bl (sW vs 0) (sW vs 1)) (sp_com (sw_x vs 0) (sw_x vs 1)))) := by
  obtain ⟨w1, w2, w3⟩ := g.sW (k := 0) (by omega)
  obtain ⟨T1, e1, e2, e3⟩ := m_whoW (h := h) g (k := 0) (by omega) hb (by decide)
  have q1 : mX mSt S T1 := e2.le fun _ _ z => mQ_st z
  rw [bl_n] at e3
  rw [if_pos rfl, Nat.add_zero] at e1
  have b78 : ∀ T : gv_S, mX mSt S T → T.1 30 11 = gI 0 → mF h S (f_M_choosing_b78 (some 30) (gv_ov h T)) (gV_1 (gc_e 6)) := fun T q hT => by
    unfold f_M_choosing_b78
    rw [gc_30, gu_idU, gI_lit 6, m_fail 0 6 hT (by decide), bl_n]
    exact mF.err (q.trans (mX.I _ (mB_st ⟨rfl, rfl⟩))) (gu11 6) (by decide) (by decide)
  have c0 : (0 : Int64) = gJ 0 := rfl
  unfold f_M_choosing
  rw [gc_30, e1, gk_ca_some]
  rcases hf with rfl | rfl
  · rw [if_neg (show ¬ (gI 27 = (28 : Int32)) by decide), if_pos rfl]
    unfold f_M_choosing_b23
    rw [gg_30_11, e3, itl0 _ w1]
    by_cases z : sW vs 0 = 0
    · rw [if_pos z, if_pos (show gI 27 = (27 : Int32) from rfl), c0, show (170 : Int64) = gJ 170 from rfl, jte_lt _ _ _ _ (by omega) (by omega) (by decide) (by decide), jte_le _ _ _ _ (by omega) (by omega) (by decide) (by decide), show sx (sW vs 0) (sp_fac (sw_x vs 0)) = sp_fac (sw_x vs 0) from if_pos z]
      rw [z] at e3
      unfold sp_fac
      by_cases z1 : sw_x vs 0 < 0
      · rw [if_pos z1, if_pos (Or.inl z1)]
        exact b78 _ q1 e3
      · by_cases z2 : sw_x vs 0 ≤ 170
        · rw [if_neg z1, if_pos z2, if_neg (by omega)]
          unfold f_M_choosing_b85
          obtain ⟨m, hm⟩ : ∃ m : Nat, sw_x vs 0 = (m : Int) := ⟨(sw_x vs 0).toNat, by omega⟩
          rw [hm, show ((m : Int)).toNat = m from rfl]
          have := mch_27 (h := h) (S0 := S) m (by omega) (gJ 0) m 1 gk_F 0x3ff0000000000000 T1 (by omega) (by unfold gk_F; omega) (by decide) fd_1_f e3 q1
          have es : s_fac m 1 0x3ff0000000000000 = s_fac (m - 1) 2 0x3ff0000000000000 := by
            cases m with
            | zero => rfl
            | succ m =>
              show s_fac m 2 (FP.dmul 0x3ff0000000000000 (FP.i2d (gI 1))) = _
              rw [show FP.dmul 0x3ff0000000000000 (FP.i2d (gI 1)) = 0x3ff0000000000000 by decide +kernel]
              rfl
          rw [es] at this
          exact this
        · rw [if_neg z1, if_neg z2, if_pos (Or.inr (by omega))]
          exact b78 _ q1 e3
    · rw [if_neg z, show sx (sW vs 0) (sp_fac (sw_x vs 0)) = gc_e (sW vs 0) from if_neg z]
      exact mF.err q1 e3 z w1
  · obtain ⟨v1, v2, v3⟩ := g.sW (k := 1) (by have := hn rfl; omega)
    obtain ⟨T2, p1, p2, p3⟩ := m_whoW (h := h) (g.st q1) (k := 1) (by have := hn rfl; omega) e3 w1
    have q2 : mX mSt S T2 := q1.trans (p2.le fun _ _ z => mQ_st z)
    have hE := bl_le w1 v1
    rw [if_pos (show gI 28 = (28 : Int32) from rfl), if_neg (by decide), show gI a + (1 : Int32) = gI (a + 1) from gI_add a 1, gc_30, p1, gk_ca_some]
    unfold f_M_choosing_b23
    rw [gg_30_11, p3, itl0 _ hE]
    by_cases z : bl (sW vs 0) (sW vs 1) = 0
    · have z0 := (bl_z.mp z).1
      rw [if_pos z, if_pos z0, if_neg (show ¬ (gI 28 = (27 : Int32)) by decide), c0, show (1000 : Int64) = gJ 1000 from rfl, jte_lt _ _ _ _ (by omega) (by omega) (by decide) (by decide), jte_gt _ _ _ _ (by omega) (by omega) (by omega) (by omega), jte_le _ _ _ _ (by omega) (by omega) (by decide) (by decide), show sx (bl (sW vs 0) (sW vs 1)) (sp_com (sw_x vs 0) (sw_x vs 1)) = sp_com (sw_x vs 0) (sw_x vs 1) from if_pos z]
      rw [z] at p3
      unfold sp_com
      by_cases z1 : sw_x vs 1 < 0
      · rw [if_pos z1, if_pos (Or.inl z1)]
        exact b78 _ q2 p3
      · by_cases z2 : sw_x vs 0 < sw_x vs 1
        · rw [if_neg z1, if_pos z2, if_pos (Or.inr (Or.inl z2))]
          exact b78 _ q2 p3
        · by_cases z3 : sw_x vs 0 ≤ 1000
          · rw [if_neg z1, if_neg z2, if_pos z3, if_neg (by omega)]
            unfold f_M_choosing_b85
            obtain ⟨m, hm⟩ : ∃ m : Nat, sw_x vs 0 = (m : Int) := ⟨(sw_x vs 0).toNat, by omega⟩
            obtain ⟨k, hk⟩ : ∃ k : Nat, sw_x vs 1 = (k : Int) := ⟨(sw_x vs 1).toNat, by omega⟩
            rw [hm, hk, show ((m : Int) - (k : Int)).toNat = m - k by omega, show ((k : Int)).toNat = k from rfl]
            exact mch_28 (h := h) (S0 := S) m k (by omega) (by omega) k 1 gk_F 0x3ff0000000000000 T2 (by omega) (by unfold gk_F; omega) (by decide) fd_1_f p3 q2
          · rw [if_neg z1, if_neg z2, if_neg z3, if_pos (Or.inr (Or.inr (by omega)))]
            exact b78 _ q2 p3
    · rw [if_neg z, show sx (bl (sW vs 0) (sW vs 1)) (sp_com (sw_x vs 0) (sw_x vs 1)) = gc_e (bl (sW vs 0) (sW vs 1)) from if_neg z]
      exact mF.err q2 p3 z hE
end MCH
