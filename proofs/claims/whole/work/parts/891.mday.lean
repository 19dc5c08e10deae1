/-! THE PURE PART: the reference's days (81 to 91): months on, dates, times -/
theorem fs_dec (K : Nat) : fsN (12 * (K + 1)) = fsN (12 * K + 11) + 31 := by
  have a := fsN_eq K 11 (by decide)
  have b := fsN_eq (K + 1) 0 (by decide)
  have c := ly_step (1899 + K)
  rw [show 1899 + K + 1 = 1899 + (K + 1) from rfl] at c
  rw [show dB.getD 11 0 = 334 from rfl, if_pos (show 1 < 12 * K + 11 by omega), show 1900 + K = 1899 + (K + 1) by omega] at a
  rw [show dB.getD 0 0 = 0 from rfl, if_pos (show 1 < 12 * (K + 1) + 0 by omega), if_neg (show ¬ (1 < 0 ∧ lpN (1900 + (K + 1)) = true) from fun w => absurd w.1 (by decide))] at b
  simp only [Nat.add_zero] at b
  by_cases w : lpN (1899 + (K + 1)) = true
  · rw [if_pos w] at c
    rw [if_pos (show 1 < 11 ∧ lpN (1899 + (K + 1)) = true from ⟨by decide, w⟩)] at a
    omega
  · rw [if_neg w] at c
    rw [if_neg (show ¬ (1 < 11 ∧ lpN (1899 + (K + 1)) = true) from fun q => w q.2)] at a
    omega
theorem fs_s (m : Nat) : fsN (m + 1) = fsN m + mlN (1900 + m / 12) (m % 12 + 1) := by
  have e : m = 12 * (m / 12) + m % 12 := by omega
  by_cases z : m % 12 < 11
  · have := fs_1 (m / 12) (m % 12) z
    rw [show 12 * (m / 12) + (m % 12 + 1) = m + 1 by omega, show 12 * (m / 12) + m % 12 = m by omega] at this
    exact this
  · have h11 : m % 12 = 11 := by omega
    have := fs_dec (m / 12)
    rw [show 12 * (m / 12 + 1) = m + 1 by omega, show 12 * (m / 12) + 11 = m by omega] at this
    rw [this, h11]
    rfl
theorem sp_mo_in {d : Nat} (hd : d ≤ 2958465) : d < fsN (sp_mo d + 1) ∧ (sp_mo d = 0 ∨ fsN (sp_mo d) ≤ d) := by
  have hbig : d < fsN (0 + 2 ^ 17) := by
    have : fsN (0 + 2 ^ 17) > 2958465 := by decide
    omega
  have := sp_bs_at d 17 0 (Or.inl rfl) hbig
  unfold sp_mo
  exact ⟨this.2, this.1⟩
theorem sp_day_b {d : Nat} (hd : d ≤ 2958465) : fsN (sp_mo d) ≤ d + 1 ∧ d + 1 ≤ fsN (sp_mo d) + 31 := by
  obtain ⟨h1, h2⟩ := sp_mo_in hd
  have hs := fs_s (sp_mo d)
  have hb := mlN_b (1900 + sp_mo d / 12) (sp_mo d % 12 + 1)
  have f0 : fsN (sp_mo d) = 1 ∨ fsN (sp_mo d) ≤ d := by
    rcases h2 with q | q
    · rw [q]
      exact Or.inl rfl
    · exact Or.inr q
  generalize fsN (sp_mo d + 1) = A at h1 hs
  generalize fsN (sp_mo d) = B at f0 hs ⊢
  generalize mlN (1900 + sp_mo d / 12) (sp_mo d % 12 + 1) = C at hb hs
  omega
theorem sp_day_D {d : Nat} (hd : d ≤ 2958465) : ∃ D : Nat, (d : Int) - fsN (sp_mo d) + 1 = D ∧ D ≤ 31 := by
  obtain ⟨h1, h2⟩ := sp_day_b hd
  generalize fsN (sp_mo d) = B at h1 h2 ⊢
  exact ⟨((d : Int) - B + 1).toNat, by omega, by omega⟩
theorem nin0 (v : Int) (h1 : -2147483648 ≤ v) (h2 : v < 2147483648) {β : Sort _} (X Y : β) : (if (0 : Int32) ≤ gN v then X else Y) = if 0 ≤ v then X else Y := nte_le X Y 0 v (by decide) (by decide) h1 h2
section MDA
variable {h : gk_H} {S S0 S1 T U : gv_S} {a n f e : Nat} {vs : Nat → gp_V}
theorem m_short (z : Int) (hz : -9007199254740992 < z ∧ z < 9007199254740992) (h : gk_H) : f_M_isShort (gJ z) h = some (gB (shN z), h) := by
  unfold f_M_isShort f_M_isShort_b20 f_M_isShort_b21 shN
  rw [nb0, nb1, gJl_m32768, gJl_32767, jte_lt _ _ _ _ (by omega) (by omega) (by omega) (by omega), jte_gt _ _ _ _ (by omega) (by omega) (by omega) (by omega)]
  by_cases z1 : z < -32768
  · rw [if_pos z1, decide_eq_false (by omega)]
    rfl
  · rw [if_neg z1]
    by_cases z2 : 32767 < z
    · rw [if_pos z2, decide_eq_false (by omega)]
      rfl
    · rw [if_neg z2, decide_eq_true (by omega)]
      rfl
theorem mF.f6 (qU : mX mSt S U) (hU : U.1 30 11 = gI 0) : mF h S (gk_cv (gv_ov h U) (some 30) 7 (f_M_fail (some 30) (6 : Int32) (gv_ov h U)) fun _ h1 => some ((), h1)) (gV_1 (gc_e 6)) := by
  rw [gc_30, gu_idU, gI_lit 6, m_fail 0 6 hU (by decide), bl_n]
  exact mF.err (qU.trans (mX.I _ (mB_st ⟨rfl, rfl⟩))) (gu11 6) (by decide) (by decide)
theorem m_answerDay (qU : mX mSt S U) (hU : U.1 30 11 = gI 0) (z : Int) (hz : -9007199254740992 < z ∧ z < 9007199254740992) : mF h S (f_M_answerDay (some 30) (gJ z) (gv_ov h U)) (gV_1 (sp_oD z)) := by
  have b14 : mF h S (f_M_answerDay_b14 (some 30) (gJ z) (gv_ov h U)) (gV_1 (gc_e 6)) := by
    unfold f_M_answerDay_b14 f_M_answerDay_b20
    rw [gc_30, gI_lit 6, m_fail 0 6 hU (by decide), bl_n, gk_ca_some, gc_30, gu_idU]
    exact mF.ansE (fd_l2df _).n (qU.trans (mX.I _ (mB_st ⟨rfl, rfl⟩))) (gu11 6) (by decide) (by decide)
  unfold f_M_answerDay sp_oD
  rw [show (0 : Int64) = gJ 0 from gJl_0, gJl_2958465, jte_lt _ _ _ _ (by omega) (by omega) (by omega) (by omega), jte_le _ _ _ _ (by omega) (by omega) (by omega) (by omega)]
  by_cases z1 : z < 0
  · rw [if_pos z1, if_pos (Or.inl z1)]
    exact b14
  · rw [if_neg z1]
    by_cases z2 : z ≤ 2958465
    · rw [if_pos z2, if_neg (show ¬ (z < 0 ∨ 2958465 < z) by omega)]
      unfold f_M_answerDay_b20
      rw [gc_30, gu_idU]
      exact mF.ansN (fd_l2df _) qU hU
    · rw [if_neg z2, if_pos (Or.inr (by omega))]
      exact b14
/-- year and month out of months -/
theorem ym_div {v4 v5 M : Int} (h0 : 0 ≤ v4) (hM : v4 + 12 * (v5 - 1900) = M) : v5 + ((v4.toNat / 12 : Nat) : Int) = 1900 + M / 12 ∧ ((v4.toNat % 12 : Nat) : Int) = M % 12 := by
  omega
theorem mo_monthsOn {d mm : Nat} (hml : mm < 131072) (hDD : ∃ D : Nat, (d : Int) - fsN mm + 1 = D ∧ D ≤ 31) (qU : mX mSt S U) (hU : U.1 30 11 = gI 0) (u22 : U.1 30 22 = gI (1900 + mm / 12)) (u23 : U.1 30 23 = gI (mm % 12 + 1)) (u24 : U.1 30 24 = gN ((d : Int) - fsN (mm) + 1)) (mo : Int) (hmo : -9007199254740992 < mo ∧ mo < 9007199254740992) {en : Nat} (he : en ≤ 1) : mF h S (f_M_monthsOn (some 30) (gI en) (gJ mo) (gv_ov h U)) (gV_1 (if shN mo = true then (if (mm : Int) + mo < 0 then gc_e 6 else sp_oD (if en = 1 then (fsN (((mm : Int) + mo).toNat + 1) : Int) - 1 else min ((fsN ((mm : Int) + mo).toNat : Int) + d - fsN (mm)) ((fsN (((mm : Int) + mo).toNat + 1) : Int) - 1))) else gc_e 6)) := by
  unfold f_M_monthsOn
  rw [m_short mo hmo, gk_ca_some, ite_B]
  by_cases z1 : shN mo = true
  · obtain ⟨m1, m2⟩ := shN_t z1
    have f3 := fsN_le (m := mm) (by omega)
    rw [if_pos z1, if_pos z1, gg_30_23, u23, show gI (mm % 12 + 1) - (1 : Int32) = gI (mm % 12) from gI_sub _ 1 (by omega), gJ_toIN _ (by omega) (by omega), gI_N (mm % 12), gN_add, gk_let_eq, gg_30_22, u22, gI_N (1900 + mm / 12)]
    -- the month is found
    have ex : ∀ (fu : Nat) (v4 v5 : Int), 0 ≤ v4 → v4 < 100000 → -40000 < v5 → v5 < 40000 → v4 + 12 * (v5 - 1900) = (mm : Int) + mo → mF h S (f_M_monthsOn_b31 (fu + 1) (some 30) (gI en) (gN v4) (gN v5) (gv_ov h U)) (gV_1 (if (mm : Int) + mo < 0 then gc_e 6 else sp_oD (if en = 1 then (fsN (((mm : Int) + mo).toNat + 1) : Int) - 1 else min ((fsN ((mm : Int) + mo).toNat : Int) + d - fsN (mm)) ((fsN (((mm : Int) + mo).toNat + 1) : Int) - 1)))) := by
      intro fu v4 v5 a1 a2 a3 a4 a5
      obtain ⟨y1, y2⟩ := ym_div a1 a5
      obtain ⟨V, hV⟩ : ∃ V : Nat, v4 = V := ⟨v4.toNat, by omega⟩
      rw [hV, Int.toNat_natCast] at y1 y2
      rw [f_M_monthsOn_b31, hV]
      dsimp only
      rw [nin0 _ (by omega) (by omega), if_pos (show (0 : Int) ≤ (V : Int) by omega), ← gI_N V, gI_lit 12, gI_mod _ _ (by omega) (by decide) (by decide), gI_div _ _ (by omega) (by decide) (by decide), gI_N (V / 12), gN_add, gk_let_eq, show gI (V % 12) + (1 : Int32) = gI (V % 12 + 1) from gI_add _ 1, gk_let_eq, gI_lit 1900, gI_N 1900, nte_le _ _ _ _ (by omega) (by omega) (by omega) (by omega), y1]
      by_cases z2 : (mm : Int) + mo < 0
      · rw [if_neg (show ¬ ((1900 : Nat) : Int) ≤ 1900 + ((mm : Int) + mo) / 12 by omega), if_pos z2]
        exact mF.f6 qU hU
      · obtain ⟨M, hM⟩ : ∃ M : Nat, (mm : Int) + mo = M := ⟨((mm : Int) + mo).toNat, by omega⟩
        have f1 := fsN_le (m := M) (by omega)
        have f2 := fsN_le (m := M + 1) (by omega)
        have hs := fs_s M
        have hb := mlN_b (1900 + M / 12) (M % 12 + 1)
        have e12 : 12 * (M / 12) + M % 12 = M := by omega
        rw [if_pos (show ((1900 : Nat) : Int) ≤ 1900 + ((mm : Int) + mo) / 12 by omega), if_neg z2, hM, Int.toNat_natCast, show (1900 : Int) + (M : Int) / 12 = ((1900 + M / 12 : Nat) : Int) by omega, ← gI_N, show V % 12 = M % 12 by omega, m_monthLong _ _ (by omega) (by omega), gk_ca_some, m_firstOf _ _ (by omega) (by omega), gk_ca_some, e12, ine0 _ (by omega)]
        have b122 : ∀ w : Nat, w < 100 → mF h S (f_M_monthsOn_b122 (some 30) (gI (fsN M)) (gI w) (gv_ov h U)) (gV_1 (sp_oD ((fsN M : Int) + w - 1))) := fun w hw => by
          unfold f_M_monthsOn_b122
          rw [gI_add, gI_toJ _ (by omega), show (1 : Int64) = gJ 1 from gJl_1, gJ_sub, gc_30, gu_idU, show ((fsN M + w : Nat) : Int) - 1 = (fsN M : Int) + w - 1 by omega]
          exact m_answerDay qU hU _ (by omega)
        unfold f_M_monthsOn_b113
        by_cases z3 : en = 0
        · rw [if_pos z3, if_neg (show ¬ en = 1 by omega), gg_30_24, u24]
          obtain ⟨D, hD, hD31⟩ := hDD
          rw [hD, ← gI_N, ite_le _ _ _ _ (by omega) (by omega)]
          by_cases z4 : D ≤ mlN (1900 + M / 12) (M % 12 + 1)
          · rw [if_pos z4, gg_30_24, u24, hD, ← gI_N, show min ((fsN M : Int) + d - fsN (mm)) ((fsN (M + 1) : Int) - 1) = (fsN M : Int) + D - 1 by omega]
            exact b122 D (by omega)
          · rw [if_neg z4, show min ((fsN M : Int) + d - fsN (mm)) ((fsN (M + 1) : Int) - 1) = (fsN M : Int) + (mlN (1900 + M / 12) (M % 12 + 1) : Nat) - 1 by omega]
            exact b122 _ (by omega)
        · rw [if_neg z3, if_pos (show en = 1 by omega), show (fsN (M + 1) : Int) - 1 = (fsN M : Int) + (mlN (1900 + M / 12) (M % 12 + 1) : Nat) - 1 by omega]
          exact b122 _ (by omega)
    have loop : ∀ (r fu : Nat) (v4 v5 : Int), r < fu → r ≤ 5000 → -(12 * r : Nat) ≤ v4 → v4 < 100000 → -30000 + (r : Int) ≤ v5 → v5 < 40000 → v4 + 12 * (v5 - 1900) = (mm : Int) + mo → mF h S (f_M_monthsOn_b31 fu (some 30) (gI en) (gN v4) (gN v5) (gv_ov h U)) (gV_1 (if (mm : Int) + mo < 0 then gc_e 6 else sp_oD (if en = 1 then (fsN (((mm : Int) + mo).toNat + 1) : Int) - 1 else min ((fsN ((mm : Int) + mo).toNat : Int) + d - fsN (mm)) ((fsN (((mm : Int) + mo).toNat + 1) : Int) - 1)))) := by
      intro r
      induction r with
      | zero =>
        intro fu v4 v5 hf _ a1 a2 a3 a4 a5
        obtain ⟨fu, rfl⟩ : ∃ g, fu = g + 1 := ⟨fu - 1, by omega⟩
        exact ex fu v4 v5 (by omega) a2 (by omega) a4 a5
      | succ r ih =>
        intro fu v4 v5 hf hr a1 a2 a3 a4 a5
        obtain ⟨fu, rfl⟩ : ∃ g, fu = g + 1 := ⟨fu - 1, by omega⟩
        by_cases z : 0 ≤ v4
        · exact ex fu v4 v5 z a2 (by omega) a4 a5
        · have := ih fu (v4 + ((12 : Nat) : Int)) (v5 + -1) (by omega) (by omega) (by omega) (by omega) (by omega) (by omega) (by omega)
          rw [f_M_monthsOn_b31]
          dsimp only
          rw [nin0 _ (by omega) (by omega), if_neg z, gI_lit 12, gI_N 12, gN_add, gk_let_eq, gIl_m1, gN_add, gk_let_eq]
          exact this
    exact loop 5000 gk_F _ _ (by unfold gk_F; omega) (Nat.le_refl _) (by omega) (by omega) (by omega) (by omega) (by omega)
  · rw [if_neg z1, if_neg z1]
    exact mF.f6 qU hU
end MDA
