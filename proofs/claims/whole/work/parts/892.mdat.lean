/-! THE PURE PART: the reference's days (81 to 91): dates and times out of three numbers -/
theorem fd_d864 {x : UInt64} (hx : fd_f x) : fd_f (FP.ddiv x 0x40f5180000000000) := by
  have h1 := (FP.Core.fin_bits x).mp hx
  have h2 := FP.Core.ddiv_mag (a := x) (b := 0x40f5180000000000) (K := 2047) (L := 1039) h1 (by decide) (by decide) (by decide) (by decide)
  have h3 : (FP.ddiv x 0x40f5180000000000).toNat % 2 ^ 63 < (2047 + (1074 - 52 - 1) - 1039 + 3) * 2 ^ 52 := h2
  exact (FP.Core.fin_bits _).mpr (by omega)
section MDT
variable {h : gk_H} {S S0 S1 T U : gv_S} {a n f e : Nat} {vs : Nat → gp_V}
theorem mo_date (qU : mX mSt S U) (hU : U.1 30 11 = gI 0) (fy m d : Int) (y1 : -32768 ≤ fy) (y2 : fy ≤ 40000) (m1 : -32768 ≤ m) (m2 : m ≤ 32767) (d1 : -32768 ≤ d) (d2 : d ≤ 32767) : mF h S (f_M_ofThree_b170 (some 30) (gJ m) (gJ d) (gJ fy) (gv_ov h U)) (gV_1 (if (fy - 1900) * 12 + m - 1 < 0 then gc_e 6 else sp_oD ((fsN ((fy - 1900) * 12 + m - 1).toNat : Int) + d - 1))) := by
  have idu : ∀ x : Option (Unit × gk_H), (gk_ca x fun _ h1 => f_M_ofThree_b247 h1) = x := fun x => gu_idU x
  generalize hM : (fy - 1900) * 12 + m - 1 = M
  have ex : ∀ (fu : Nat) (v4 v5 : Int), 0 ≤ v4 → v4 < 100000 → -50000 < v5 → v5 < 50000 → v4 + 12 * (v5 - 1900) = M → mF h S (f_M_ofThree_b180 (fu + 1) (some 30) (gJ d) (gN v5) (gN v4) (gv_ov h U)) (gV_1 (if M < 0 then gc_e 6 else sp_oD ((fsN M.toNat : Int) + d - 1))) := by
    intro fu v4 v5 a1 a2 a3 a4 a5
    obtain ⟨x1, x2⟩ := ym_div a1 a5
    obtain ⟨V, hV⟩ : ∃ V : Nat, v4 = V := ⟨v4.toNat, by omega⟩
    rw [hV, Int.toNat_natCast] at x1 x2
    rw [f_M_ofThree_b180, hV]
    dsimp only
    rw [nin0 _ (by omega) (by omega), if_pos (show (0 : Int) ≤ (V : Int) by omega), ← gI_N V, gI_lit 12, gI_mod _ _ (by omega) (by decide) (by decide), gI_div _ _ (by omega) (by decide) (by decide), gI_N (V / 12), gN_add, gk_let_eq, gI_lit 1900, gI_N 1900, nte_le _ _ _ _ (by omega) (by omega) (by omega) (by omega), x1, show gI (V % 12) + (1 : Int32) = gI (V % 12 + 1) from gI_add _ 1]
    by_cases z2 : M < 0
    · rw [if_neg (show ¬ ((1900 : Nat) : Int) ≤ 1900 + M / 12 by omega), if_pos z2]
      exact mF.f6 qU hU
    · obtain ⟨m', hm'⟩ : ∃ m' : Nat, M = m' := ⟨M.toNat, by omega⟩
      rw [if_pos (show ((1900 : Nat) : Int) ≤ 1900 + M / 12 by omega), if_neg z2]
      subst hm'
      have f1 := fsN_le (m := m') (by omega)
      rw [Int.toNat_natCast, show (1900 : Int) + (m' : Int) / 12 = ((1900 + m' / 12 : Nat) : Int) by omega, ← gI_N, show V % 12 = m' % 12 by omega, m_firstOf _ _ (by omega) (by omega), gk_ca_some, show 12 * (m' / 12) + m' % 12 = m' by omega, gI_toJ _ (by omega), show (1 : Int64) = gJ 1 from gJl_1, gJ_add, gJ_sub, gc_30, idu]
      exact m_answerDay qU hU _ (by omega)
  have loop : ∀ (r fu : Nat) (v4 v5 : Int), r < fu → r ≤ 5000 → -(12 * r : Nat) ≤ v4 → v4 < 100000 → -40000 + (r : Int) ≤ v5 → v5 < 50000 → v4 + 12 * (v5 - 1900) = M → mF h S (f_M_ofThree_b180 fu (some 30) (gJ d) (gN v5) (gN v4) (gv_ov h U)) (gV_1 (if M < 0 then gc_e 6 else sp_oD ((fsN M.toNat : Int) + d - 1))) := by
    intro r
    induction r with
    | zero =>
      intro fu v4 v5 hf _ a1 a2 a3 a4 a5
      obtain ⟨fu, rfl⟩ : ∃ g, fu = g + 1 := ⟨fu - 1, by omega⟩
      exact ex fu v4 v5 (by omega) a2 (by omega) a4 a5
    | succ r ih =>
      intro fu v4 v5 hf hr a1 a2 a3 a4 a5
      obtain ⟨fu, rfl⟩ : ∃ g, fu = g + 1 := ⟨fu - 1, by omega⟩
      by_cases z : 0 ≤ v4
      · exact ex fu v4 v5 z a2 (by omega) a4 a5
      · have := ih fu (v4 + ((12 : Nat) : Int)) (v5 + -1) (by omega) (by omega) (by omega) (by omega) (by omega) (by omega) (by omega)
        rw [f_M_ofThree_b180]
        dsimp only
        rw [nin0 _ (by omega) (by omega), if_neg z, gI_lit 12, gI_N 12, gN_add, gk_let_eq, gIl_m1, gN_add, gk_let_eq]
        exact this
  unfold f_M_ofThree_b170
  rw [gJ_toIN _ (by omega) (by omega), gJ_toIN _ (by omega) (by omega), gk_let_eq, gI_lit 1, gI_N 1, gN_sub, gk_let_eq]
  exact loop 5000 gk_F _ _ (by unfold gk_F; omega) (Nat.le_refl _) (by omega) (by omega) (by omega) (by omega) (by omega)
theorem mo_ofThree (g : mG S a vs n) (hb : S.1 30 11 = gI 0) (hn : 3 ≤ n) (hf : f = 81 ∨ f = 88) : mF h S (f_M_ofThree (some 30) (gI f) (gI a) (gv_ov h S)) (gV_1 (sx (bl (bl (sW vs 0) (sW vs 1)) (sW vs 2)) (if f = 81 then sp_dat (sw_x vs 0) (sw_x vs 1) (sw_x vs 2) else sp_tim (sw_x vs 0) (sw_x vs 1) (sw_x vs 2)))) := by
  obtain ⟨w0, w0a, w0b⟩ := g.sW (k := 0) (by omega)
  obtain ⟨w1, w1a, w1b⟩ := g.sW (k := 1) (by omega)
  obtain ⟨w2, w2a, w2b⟩ := g.sW (k := 2) (by omega)
  obtain ⟨T0, e1, e2, e3⟩ := m_whoW (h := h) g (k := 0) (by omega) hb (by decide)
  rw [Nat.add_zero] at e1
  rw [bl_n] at e3
  rw [if_pos rfl] at e1
  have q0 : mX mSt S T0 := e2.le fun _ _ z => mQ_st z
  obtain ⟨T1, e4, e5, e6⟩ := m_whoW (h := h) (g.st q0) (k := 1) (by omega) e3 w0
  have q1 : mX mSt S T1 := q0.trans (e5.le fun _ _ z => mQ_st z)
  have b1 := bl_le w0 w1
  obtain ⟨T2, e7, e8, e9⟩ := m_whoW (h := h) (g.st q1) (k := 2) (by omega) e6 b1
  have q2 : mX mSt S T2 := q1.trans (e8.le fun _ _ z => mQ_st z)
  have b2 := bl_le b1 w2
  unfold f_M_ofThree
  rw [gc_30, e1, gk_ca_some, show gI a + (1 : Int32) = gI (a + 1) from gI_add _ 1, gc_30, e4, gk_ca_some, show gI a + (2 : Int32) = gI (a + 2) from gI_add _ 2, gc_30, e7, gk_ca_some, gg_30_11, e9, itl0 _ b2]
  by_cases z : bl (bl (sW vs 0) (sW vs 1)) (sW vs 2) = 0
  · have z01 := (bl_z.mp z).1
    have z0 := (bl_z.mp z01).1
    rw [z] at e9
    rw [if_pos z, z, show ∀ c : gp_C, sx 0 c = c from fun c => if_pos rfl, if_pos z0, if_pos z01, gI_lit 88, ite_eq _ _ _ _ (by omega) (by decide)]
    generalize sw_x vs 0 = p at w0a w0b ⊢
    generalize sw_x vs 1 = q at w1a w1b ⊢
    generalize sw_x vs 2 = r at w2a w2b ⊢
    by_cases y : f = 88
    · rw [if_pos y, if_neg (show ¬ f = 81 by omega)]
      have b84 : mF h S (f_M_ofThree_b84 (some 30) (gJ p) (gJ q) (gJ r) (gv_ov h T2)) (gV_1 (gc_e 6)) := by
        unfold f_M_ofThree_b84 f_M_ofThree_b90
        rw [gc_30, gI_lit 6, m_fail 0 6 e9 (by decide), bl_n, gk_ca_some, gk_let_eq]
        have hn := fun y => fd_ddiv (fd_l2df y).n fd_86400.1 fd_86400.2
        rw [fd_dop (hn _), gc_30, gu_idU]
        exact mF.ansE (hn _) (q2.trans (mX.I _ (mB_st ⟨rfl, rfl⟩))) (gu11 6) (by decide) (by decide)
      unfold sp_tim
      rw [show (0 : Int64) = gJ 0 from gJl_0, gJl_32767, jte_lt _ _ _ _ (by omega) (by omega) (by omega) (by omega), jte_lt _ _ _ _ (by omega) (by omega) (by omega) (by omega), jte_lt _ _ _ _ (by omega) (by omega) (by omega) (by omega), jte_gt _ _ _ _ (by omega) (by omega) (by omega) (by omega), jte_gt _ _ _ _ (by omega) (by omega) (by omega) (by omega), jte_le _ _ _ _ (by omega) (by omega) (by omega) (by omega)]
      by_cases k : p < 0 ∨ 32767 < p ∨ q < 0 ∨ 32767 < q ∨ r < 0 ∨ 32767 < r
      · rw [if_pos k]
        by_cases k1 : p < 0
        · rw [if_pos k1]
          exact b84
        · rw [if_neg k1]
          by_cases k2 : q < 0
          · rw [if_pos k2]
            exact b84
          · rw [if_neg k2]
            by_cases k3 : r < 0
            · rw [if_pos k3]
              exact b84
            · rw [if_neg k3]
              by_cases k4 : 32767 < p
              · rw [if_pos k4]
                exact b84
              · rw [if_neg k4]
                by_cases k5 : 32767 < q
                · rw [if_pos k5]
                  exact b84
                · rw [if_neg k5, if_neg (show ¬ r ≤ 32767 by omega)]
                  exact b84
      · have hn := fd_ddiv (fd_l2df (gJ ((3600 * p + 60 * q + r) % 86400))).n fd_86400.1 fd_86400.2
        rw [if_neg k, if_neg (show ¬ p < 0 by omega), if_neg (show ¬ q < 0 by omega), if_neg (show ¬ r < 0 by omega), if_neg (show ¬ 32767 < p by omega), if_neg (show ¬ 32767 < q by omega), if_pos (show r ≤ 32767 by omega)]
        unfold f_M_ofThree_b90
        rw [gJl_3600, gJl_60, gJl_86400, gJ_mul, gJ_mul, gJ_add, gJ_add, gk_let_eq, gJ_div _ _ (by omega) (by omega) (by decide) (by decide), gJ_mul, gJ_sub, show 3600 * p + 60 * q + r - (3600 * p + 60 * q + r) / 86400 * 86400 = (3600 * p + 60 * q + r) % 86400 by omega, fd_dop hn, gc_30, gu_idU]
        have hf864 := fd_d864 (fd_l2df (gJ ((3600 * p + 60 * q + r) % 86400)))
        rw [gc_num_f ((fin_f hn).mpr hf864)]
        exact mF.ansN hf864 q2 e9
    · rw [if_neg y, if_pos (show f = 81 by omega), m_short p ⟨w0a, w0b⟩, gk_ca_some, ite_B, m_short q ⟨w1a, w1b⟩, gk_ca_some, ite_B, m_short r ⟨w2a, w2b⟩, gk_ca_some, ite_B]
      unfold sp_dat
      by_cases z1 : shN p = true
      · rw [if_pos z1]
        by_cases z2 : shN q = true
        · rw [if_pos z2]
          by_cases z3 : shN r = true
          · obtain ⟨y1, y2⟩ := shN_t z1
            obtain ⟨m1, m2⟩ := shN_t z2
            obtain ⟨d1, d2⟩ := shN_t z3
            rw [if_pos z3, if_pos (show shN p = true ∧ shN q = true ∧ shN r = true from ⟨z1, z2, z3⟩), gJl_1900, jte_ge _ _ _ _ (by omega) (by omega) (by decide) (by decide)]
            by_cases z4 : p < 1900
            · rw [if_neg (show ¬ 1900 ≤ p by omega), if_pos z4, gJ_add]
              exact mo_date q2 e9 _ _ _ (by omega) (by omega) m1 m2 d1 d2
            · rw [if_pos (show 1900 ≤ p by omega), if_neg z4]
              exact mo_date q2 e9 _ _ _ (by omega) (by omega) m1 m2 d1 d2
          · rw [if_neg z3, if_neg (fun w => z3 w.2.2)]
            exact mF.f6 q2 e9
        · rw [if_neg z2, if_neg (fun w => z2 w.2.1)]
          exact mF.f6 q2 e9
      · rw [if_neg z1, if_neg (fun w => z1 w.1)]
        exact mF.f6 q2 e9
  · rw [if_neg z, show ∀ c : gp_C, sx (bl (bl (sW vs 0) (sW vs 1)) (sW vs 2)) c = gc_e (bl (bl (sW vs 0) (sW vs 1)) (sW vs 2)) from fun c => if_neg z]
    exact mF.err q2 e9 z b2
end MDT
