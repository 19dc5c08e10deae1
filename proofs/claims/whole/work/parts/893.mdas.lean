/-! THE PURE PART: the reference's days (81 to 91), all -/
theorem fd_65k : fd_i 2958465 0x4146924080000000 := by
  have := fd_i2dI (n := 2958465) (by decide)
  have e : FP.i2d (gI 2958465) = 0x4146924080000000 := (by decide +kernel)
  rw [e] at this
  exact this
theorem fd_66kk : fd_k 0x4146924100000000 = 4703607668705591296 := by decide
theorem fd_65kk : fd_k 0x4146924080000000 = 4703607666558107648 := by decide
theorem fd_fl_lt (x : UInt64) (z : Int) : fd_fl x < z ↔ fd_v x < z * fd_P := by
  unfold fd_fl
  exact Int.ediv_lt_iff_lt_mul fd_P_pos
/-- a day's floor -/
theorem fl_day {x : UInt64} (hx : fd_n x) : (fd_k (s_fl x) < 0 ↔ fd_k x < 0) ∧ (fd_k (s_fl x) ≤ fd_k 0x4146924080000000 ↔ fd_k x < fd_k 0x4146924100000000) ∧ (0 ≤ fd_k x → fd_k x < fd_k 0x4146924100000000 → FP.d2i (s_fl x) = gI (fd_T x).toNat) := by
  by_cases z : -4845873199050653696 < fd_k x ∧ fd_k x < 4845873199050653696
  · have e : s_fl x = FP.l2d (gJ (fd_fl x)) := if_pos z
    obtain ⟨b1, b2⟩ := fd_fl_b hx z
    have hi := fd_l2d (z := fd_fl x) (by omega) (by omega)
    have h0 := fd_i.lt hi fd_i0
    rw [fd_k0] at h0
    have h65 := fd_i.lt fd_65k hi
    have hq0 := fd_fl_lt x 0
    have hq66 := fd_fl_lt x 2958466
    have v0 := (fd_kv_0 hx).2.1
    have v66 := fd_kv_lt hx fd_dayc.n
    rw [fd_dayc.v] at v66
    rw [Int.zero_mul] at hq0
    rw [e]
    refine ⟨by rw [h0, hq0, v0], ?_, fun a1 a2 => ?_⟩
    · rw [v66, ← hq66]
      constructor
      · intro w
        by_cases q : fd_fl x < 2958466
        · exact q
        · have := h65.mpr (by omega)
          omega
      · intro w
        by_cases q : fd_k (FP.l2d (gJ (fd_fl x))) ≤ fd_k 0x4146924080000000
        · exact q
        · have := h65.mp (by omega)
          omega
    · have a3 := hq66.mpr (v66.mp a2)
      have a4 : ¬ fd_fl x < 0 := fun w => by
        have := v0.mpr (hq0.mp w)
        omega
      obtain ⟨t1, t2, t3⟩ := fd_T_pos ((fd_kv_0 hx).2.2.2.mp a1)
      have eT : fd_fl x = fd_T x := by
        rw [fd_fl_T, if_neg (by omega)]
      have eT2 := fd_i.T hi
      rw [fd_d2i hi.n (by omega) (by omega), eT2, gI_N, eT, Int.toNat_of_nonneg t1]
  · have e : s_fl x = x := if_neg z
    rw [e, fd_65kk, fd_66kk]
    exact ⟨Iff.rfl, by omega, fun a1 a2 => absurd a2 (by omega)⟩
theorem fd_1v : fd_v 0x3ff0000000000000 = fd_P := by decide +kernel
theorem fd_1n : fd_n 0x3ff0000000000000 := (FP.Core.ne_nan _).mpr (by decide)
theorem fd_1kk : fd_k 0x3ff0000000000000 = 4607182418800017408 := by decide
theorem fd_864b : (0x40f5180000000000 : UInt64).toNat % 2 ^ 63 < 1040 * 2 ^ 52 := by decide
/-- a floor lies at most 1 below -/
theorem s_fl_v {x : UInt64} (hx : fd_n x) : fd_v (s_fl x) ≤ fd_v x ∧ fd_v x ≤ fd_v (s_fl x) + fd_P := by
  have hP := fd_P_pos
  by_cases z : -4845873199050653696 < fd_k x ∧ fd_k x < 4845873199050653696
  · have e : s_fl x = FP.l2d (gJ (fd_fl x)) := if_pos z
    obtain ⟨b1, b2⟩ := fd_fl_b hx z
    have hi := fd_l2d (z := fd_fl x) (by omega) (by omega)
    rw [e, hi.v]
    unfold fd_fl
    have a1 := Int.ediv_mul_le (fd_v x) (show fd_P ≠ 0 by omega)
    have a2 := Int.lt_ediv_add_one_mul_self (fd_v x) hP
    rw [Int.add_mul, Int.one_mul] at a2
    omega
  · have e : s_fl x = x := if_neg z
    rw [e]
    omega
theorem fd_frac {x : UInt64} (hx : fd_f x) : fd_f (FP.dsub x (s_fl x)) ∧ 0 ≤ fd_k (FP.dsub x (s_fl x)) ∧ fd_k (FP.dsub x (s_fl x)) ≤ fd_k 0x3ff0000000000000 := by
  have hf := s_fl_f hx
  obtain ⟨b1, b2⟩ := s_fl_v hx.n
  have hn := fd_sub_n hx hf
  obtain ⟨c1, c2, c3, c4⟩ := fd_dneg hf.n
  have ev : FP.Core.val64 (FP.dsub x (s_fl x)) = FP.Core.round FP.Core.b64 (FP.Core.exactSum (FP.Core.val64 x) (FP.Core.val64 (FP.dneg (s_fl x)))) := by
    rw [FP.val64_dneg]
    exact FP.Core.val64_dsub _ _
  have h6 := FP.Core.sum_ge FP.Core.good_b64 hx (c4 hf) (FP.Core.val64_fits x) (FP.Core.val64_fits _) (FP.Core.val64_fits 0) fd_0_n (by
    show fd_v 0 ≤ fd_v x + fd_v (FP.dneg (s_fl x))
    rw [fd_v0, c3]
    omega)
  have h3 := FP.Core.sum_le FP.Core.good_b64 hx (c4 hf) (FP.Core.val64_fits x) (FP.Core.val64_fits _) (FP.Core.val64_fits 0x3ff0000000000000) fd_1n (by
    show fd_v x + fd_v (FP.dneg (s_fl x)) ≤ fd_v 0x3ff0000000000000
    rw [fd_1v, c3]
    omega)
  rw [← ev] at h6 h3
  have h7 : fd_v 0 ≤ fd_v (FP.dsub x (s_fl x)) := h6
  have h4 : fd_v (FP.dsub x (s_fl x)) ≤ fd_v 0x3ff0000000000000 := h3
  rw [fd_v0] at h7
  have h8 := (fd_kv_0 hn).2.2.2.mpr h7
  have h9 := (fd_kv_le hn fd_1n).mpr h4
  rw [fd_1kk] at h9 ⊢
  exact ⟨(fd_f_k hn).mpr ⟨by omega, by omega⟩, h8, h9⟩
theorem fd_sec {x : UInt64} (hx : fd_f x) : 0 ≤ fd_k (FP.dadd (FP.dmul (FP.dsub x (s_fl x)) 0x40f5180000000000) 0x3fe0000000000000) := by
  obtain ⟨f1, f2, f3⟩ := fd_frac hx
  generalize FP.dsub x (s_fl x) = y at f1 f2 f3 ⊢
  rw [fd_1kk] at f3
  have key : fd_f (FP.dmul y 0x40f5180000000000) ∧ 0 ≤ fd_k (FP.dmul y 0x40f5180000000000) := by
    by_cases z : fd_k y = 0
    · have zb : y = 0 ∨ y = 0x8000000000000000 := fd_z2 z
      rcases zb with rfl | rfl
      · exact ⟨(FP.Core.fin_bits _).mpr (by decide), by decide⟩
      · exact ⟨(FP.Core.fin_bits _).mpr (by decide), by decide⟩
    · have hp := fd_p_k f1.n (by omega)
      obtain ⟨k1, k2⟩ := fd_k_p hp
      have h86p : fd_p 0x40f5180000000000 := fd_p_k fd_86400.1.n (by decide)
      have m1 := fd_mulp hp f1 h86p fd_86400.1
      have m2 := FP.Core.dmul_mag (a := y) (b := 0x40f5180000000000) (Ka := 1024) (Kb := 1040) (by omega) fd_864b (by decide) (by decide)
      have m3 : (FP.dmul y 0x40f5180000000000).toNat % 2 ^ 63 < (1024 + 1040 - 1025 + 3) * 2 ^ 52 := m2
      refine ⟨(FP.Core.fin_bits _).mpr (by omega), ?_⟩
      rw [(fd_k_p m1).1]
      omega
  exact (fd_addh key.1 key.2).2
theorem d2i_T {a b : UInt64} (ha : fd_n a) (hb : fd_n b) (h : fd_T a = fd_T b) : FP.d2i a = FP.d2i b := by
  apply Int32.toInt.inj
  have a1 := FP.Core.d2i_val ha
  have b1 := FP.Core.d2i_val hb
  rw [fd_sdiv] at a1 b1
  have a2 : (FP.d2i a).toInt = max (-2 ^ 31) (min (2 ^ 31 - 1) (fd_T a)) := a1
  have b2 : (FP.d2i b).toInt = max (-2 ^ 31) (min (2 ^ 31 - 1) (fd_T b)) := b1
  rw [a2, b2, h]
theorem d2i_fl {v : UInt64} (hv : fd_n v) (h0 : 0 ≤ fd_k v) : FP.d2i (s_fl v) = FP.d2i v := by
  by_cases z : -4845873199050653696 < fd_k v ∧ fd_k v < 4845873199050653696
  · have e : s_fl v = FP.l2d (gJ (fd_fl v)) := if_pos z
    obtain ⟨b1, b2⟩ := fd_fl_b hv z
    have hi := fd_l2d (z := fd_fl v) (by omega) (by omega)
    obtain ⟨t1, t2, t3⟩ := fd_T_pos ((fd_kv_0 hv).2.2.2.mp h0)
    rw [e]
    exact d2i_T hi.n hv (by rw [hi.T, fd_fl_T, if_neg (by omega)])
  · have e : s_fl v = v := if_neg z
    rw [e]
section MDS
variable {h : gk_H} {S S0 S1 T U : gv_S} {a n f e : Nat} {vs : Nat → gp_V}
theorem mo_timeOf (qU : mX mSt S U) (hU : U.1 30 11 = gI e) (he : e ≤ 8) {x : UInt64} (hx : fd_f x) (hf : f = 89 ∨ f = 90 ∨ f = 91) {c : gp_C} (hc : e = 0 → c = sp_pod f x) : mF h S (f_M_timeOf (some 30) (gI f) x (gv_ov h U)) (gV_1 (sx e c)) := by
  have n1 := fd_sub_n hx (s_fl_f hx)
  have n2 := fd_mul_n' n1 fd_86400.1 fd_86400.2
  have n3 := fd_add_n' n2 fd_half
  unfold f_M_timeOf
  rw [gg_30_11, hU, ite0 e he, fi_ge _ _ hx.n fd_0_n, fd_k0]
  by_cases z : e = 0
  · have ec := hc z
    rw [z] at hU
    rw [if_pos z, ec, z, show ∀ c : gp_C, sx 0 c = c from fun c => if_pos rfl]
    unfold sp_pod
    by_cases zk : fd_k x < 0
    · rw [if_neg (show ¬ 0 ≤ fd_k x by omega), if_pos zk, gc_30, gI_lit 6, m_fail 0 6 hU (by decide), bl_n, gk_ca_some]
      unfold f_M_timeOf_b19
      rw [gg_30_11, gu11, bad_gt 6 (by decide) (by decide)]
      exact mF.err (qU.trans (mX.I _ (mB_st ⟨rfl, rfl⟩))) (gu11 6) (by decide) (by decide)
    · rw [if_pos (show 0 ≤ fd_k x by omega), if_neg zk]
      unfold f_M_timeOf_b19
      rw [gg_30_11, hU, itl0 0 (by decide), if_pos rfl, mo_floor hx.n, gk_ca_some, fd_dop n1, fd_dop n2, fd_dop n3, mo_floor n3, gk_ca_some, gk_let_eq, d2i_fl n3 (fd_sec hx)]
      have core : ∀ y : Int32, mF h S (f_M_timeOf_b61 (some 30) (gI f) y (gv_ov h U)) (gV_1 (if f = 89 then gc_n (FP.i2d (y / (3600 : Int32))) else if f = 90 then gc_n (FP.i2d ((y / (60 : Int32)) - (y / (60 : Int32)) / (60 : Int32) * (60 : Int32))) else gc_n (FP.i2d (y - y / (60 : Int32) * (60 : Int32))))) := by
        intro y
        unfold f_M_timeOf_b61 f_M_timeOf_b104
        rw [gI_lit 89, gI_lit 90, ite_eq _ _ _ _ (by omega) (by decide), ite_eq _ _ _ _ (by omega) (by decide), gc_30, gu_idU, gc_30, gu_idU, gc_30, gu_idU]
        by_cases z1 : f = 89
        · rw [if_pos z1, if_pos z1]
          exact mF.ansN (fd_i2df _) qU hU
        · rw [if_neg z1, if_neg z1]
          by_cases z2 : f = 90
          · rw [if_pos z2, if_pos z2]
            exact mF.ansN (fd_i2df _) qU hU
          · rw [if_neg z2, if_neg z2]
            exact mF.ansN (fd_i2df _) qU hU
      unfold s_sec
      by_cases zz : FP.d2i (FP.dadd (FP.dmul (FP.dsub x (s_fl x)) 0x40f5180000000000) 0x3fe0000000000000) = (86400 : Int32)
      · rw [if_pos zz, if_pos zz]
        exact core 0
      · rw [if_neg zz, if_neg zz]
        exact core _
  · rw [if_neg z, show sx e c = gc_e e from if_neg z]
    unfold f_M_timeOf_b19
    rw [gg_30_11, hU, bad_gt e z he]
    exact mF.err qU hU z he
def daC (f : Nat) (x : UInt64) (i : Int) : gp_C := if f = 85 then sp_wd x i else if f = 86 ∨ f = 87 then sp_mon f x i else sp_pd f x
theorem daC_none (f : Nat) {x : UInt64} (i : Int) (z : dyo x = none) : daC f x i = gc_e 6 := by
  unfold daC sp_wd sp_mon sp_pd
  rw [z]
  dsimp only
  split
  · rfl
  · split <;> rfl
theorem mo_da56 (qU : mX mSt S U) (hU : U.1 30 11 = gI e) (he : e ≤ 8) {x : UInt64} (hx : fd_f x) (hf : 82 ≤ f ∧ f ≤ 87) (i : Int) (i1 : -9007199254740992 < i) (i2 : i < 9007199254740992) : mF h S (f_M_days_b56 (some 30) (gI f) x (gJ i) (gv_ov h U)) (gV_1 (sx e (daC f x i))) := by
  have idu : ∀ x : Option (Unit × gk_H), (gk_ca x fun _ h1 => f_M_days_b262 h1) = x := fun x => gu_idU x
  obtain ⟨l1, l2, l3⟩ := fl_day hx.n
  unfold f_M_days_b56
  rw [gg_30_11, hU, itl0 e he]
  by_cases z : e = 0
  · rw [z] at hU
    rw [if_pos z, z, show ∀ c : gp_C, sx 0 c = c from fun c => if_pos rfl, mo_floor hx.n, gk_ca_some, fi_lt _ _ (s_fl_n hx.n) fd_0_n, fd_k0, fi_le _ _ (s_fl_n hx.n) fd_65k.n]
    by_cases z1 : fd_k x < 0
    · rw [if_pos (l1.mpr z1), daC_none f i (if_pos (Or.inl z1))]
      exact mF.f6 qU hU
    · rw [if_neg (fun w => z1 (l1.mp w))]
      by_cases z2 : fd_k x < fd_k 0x4146924100000000
      · have ed : dyo x = some (fd_T x).toNat := if_neg (by omega)
        have hd := (dyo_b hx.n ed).2
        have hdi := l3 (by omega) z2
        rw [if_pos (l2.mpr z2), hdi]
        generalize (fd_T x).toNat = d at ed hd hdi
        obtain ⟨T, t1, t2, t3, t4, t5, t6⟩ := m_findDate (h := h) (S := U) d hd
        have hml := sp_mo_le d
        have hDD := sp_day_D hd
        have qT := qU.trans t2
        have hT : T.1 30 11 = gI 0 := t3.trans hU
        rw [gk_let_eq, gc_30, t1, gk_ca_some, gI_lit 85, ite_le _ _ _ _ (by omega) (by omega), ite_eq _ _ _ _ (by omega) (by omega), gI_lit 87, ite_eq _ _ _ _ (by omega) (by omega), gI_lit 82, ite_eq _ _ _ _ (by omega) (by omega), gI_lit 83, ite_eq _ _ _ _ (by omega) (by omega), gI_lit 6, gI_lit 7, gI_add, gI_mod _ _ (by omega) (by decide) (by decide), gk_let_eq, show (1 : Int64) = gJ 1 from gJl_1, gJl_3, jte_lt _ _ _ _ (by omega) (by omega) (by decide) (by decide), jte_le _ _ _ _ (by omega) (by omega) (by decide) (by decide)]
        by_cases f85 : 85 ≤ f
        · rw [if_pos f85]
          by_cases z85 : f = 85
          · have ec : daC f x i = if i < 1 ∨ 3 < i then gc_e 6 else if i = 1 then gc_n (FP.i2d (gI ((d + 6) % 7 + 1))) else gc_n (FP.i2d (gI ((d + 5) % 7 + (if i = 2 then 1 else 0)))) := by
              unfold daC sp_wd
              rw [if_pos z85, ed]
            rw [if_pos z85, ec]
            have b239 : ∀ (k : Nat) (V : gv_S), mX mSt S V → V.1 30 11 = gI 0 → mF h S (f_M_days_b239 (some 30) (FP.i2d (gI k)) (gv_ov h V)) (gV_1 (gc_n (FP.i2d (gI k)))) := fun k V qV hV => by
              unfold f_M_days_b239
              rw [gc_30, idu]
              exact mF.ansN (fd_i2df _) qV hV
            have b239e : ∀ (k : Nat) (V : gv_S), mX mSt S V → V.1 30 11 = gI 6 → mF h S (f_M_days_b239 (some 30) (FP.i2d (gI k)) (gv_ov h V)) (gV_1 (gc_e 6)) := fun k V qV hV => by
              unfold f_M_days_b239
              rw [gc_30, idu]
              exact mF.ansE (fd_i2df _).n qV hV (by decide) (by decide)
            have e191 : ∀ V : gv_S, f_M_days_b191 (some 30) (gJ i) (gI ((d + 6) % 7)) (gv_ov h V) = if i = 1 then f_M_days_b239 (some 30) (FP.i2d (gI ((d + 6) % 7 + 1))) (gv_ov h V) else if i = 2 then f_M_days_b239 (some 30) (FP.i2d (gI ((d + 5) % 7 + 1))) (gv_ov h V) else f_M_days_b239 (some 30) (FP.i2d (gI ((d + 5) % 7))) (gv_ov h V) := fun V => by
              unfold f_M_days_b191
              rw [show (1 : Int64) = gJ 1 from gJl_1, gJl_2, jte_eq _ _ _ _ (by omega) (by omega) (by decide) (by decide), jte_eq _ _ _ _ (by omega) (by omega) (by decide) (by decide), show gI ((d + 6) % 7) + (1 : Int32) = gI ((d + 6) % 7 + 1) from gI_add _ 1, gI_lit 6, gI_lit 7, gI_add, gI_mod _ _ (by omega) (by decide) (by decide), show ((d + 6) % 7 + 6) % 7 = (d + 5) % 7 by omega, show gI ((d + 5) % 7) + (1 : Int32) = gI ((d + 5) % 7 + 1) from gI_add _ 1]
            have b185 : mF h S (f_M_days_b185 (some 30) (gJ i) (gI ((d + 6) % 7)) (gv_ov h T)) (gV_1 (gc_e 6)) := by
              have qV : mX mSt S (gv_uI T 30 11 (gI 6)) := qT.trans (mX.I _ (mB_st ⟨rfl, rfl⟩))
              unfold f_M_days_b185
              rw [gc_30, gI_lit 6, m_fail 0 6 hT (by decide), bl_n, gk_ca_some, e191]
              by_cases k1 : i = 1
              · rw [if_pos k1]
                exact b239e _ _ qV (gu11 6)
              · rw [if_neg k1]
                by_cases k2 : i = 2
                · rw [if_pos k2]
                  exact b239e _ _ qV (gu11 6)
                · rw [if_neg k2]
                  exact b239e _ _ qV (gu11 6)
            by_cases k : i < 1
            · rw [if_pos k, if_pos (Or.inl k)]
              exact b185
            · rw [if_neg k]
              by_cases k3 : i ≤ 3
              · rw [if_pos k3, if_neg (show ¬ (i < 1 ∨ 3 < i) by omega), e191]
                by_cases k1 : i = 1
                · rw [if_pos k1, if_pos k1]
                  exact b239 _ _ qT hT
                · rw [if_neg k1, if_neg k1]
                  by_cases k2 : i = 2
                  · rw [if_pos k2, if_pos k2]
                    exact b239 _ _ qT hT
                  · rw [if_neg k2, if_neg k2]
                    exact b239 _ _ qT hT
              · rw [if_neg k3, if_pos (Or.inr (by omega))]
                exact b185
          · have ec : daC f x i = if shN i = true then (if (sp_mo d : Int) + i < 0 then gc_e 6 else sp_oD (if f = 87 then (fsN (((sp_mo d : Int) + i).toNat + 1) : Int) - 1 else min ((fsN ((sp_mo d : Int) + i).toNat : Int) + d - fsN (sp_mo d)) ((fsN (((sp_mo d : Int) + i).toNat + 1) : Int) - 1))) else gc_e 6 := by
              unfold daC sp_mon
              rw [if_neg z85, if_pos (show f = 86 ∨ f = 87 by omega), ed]
            rw [if_neg z85, ec]
            generalize sp_mo d = mm at hml hDD t4 t5 t6 ⊢
            have fin : ∀ en : Nat, en ≤ 1 → (en = 1 ↔ f = 87) → mF h S (f_M_days_b257 (gJ i) (some 30) (gI en) (gv_ov h T)) (gV_1 (if shN i = true then (if (mm : Int) + i < 0 then gc_e 6 else sp_oD (if f = 87 then (fsN (((mm : Int) + i).toNat + 1) : Int) - 1 else min ((fsN ((mm : Int) + i).toNat : Int) + d - fsN mm) ((fsN (((mm : Int) + i).toNat + 1) : Int) - 1))) else gc_e 6)) := fun en he1 he2 => by
              have := mo_monthsOn (h := h) (d := d) (mm := mm) hml hDD qT hT t4 t5 t6 i ⟨i1, i2⟩ he1
              unfold f_M_days_b257
              rw [gc_30, idu]
              by_cases y : f = 87
              · rw [if_pos (he2.mpr y)] at this
                rw [if_pos y]
                exact this
              · rw [if_neg (fun w => y (he2.mp w))] at this
                rw [if_neg y]
                exact this
            by_cases z87 : f = 87
            · rw [if_pos z87]
              exact fin 1 (by decide) ⟨fun _ => z87, fun _ => rfl⟩
            · rw [if_neg z87]
              exact fin 0 (by decide) ⟨fun w => absurd w (by decide), fun w => absurd w z87⟩
        · have ec : daC f x i = if f = 82 then gc_n (FP.i2d (gI (1900 + sp_mo d / 12))) else if f = 83 then gc_n (FP.i2d (gI (sp_mo d % 12 + 1))) else gc_n (FP.i2d (gN ((d : Int) - fsN (sp_mo d) + 1))) := by
            unfold daC sp_pd
            rw [if_neg (show ¬ f = 85 by omega), if_neg (show ¬ (f = 86 ∨ f = 87) by omega), ed]
          rw [if_neg f85, ec]
          unfold f_M_days_b147
          rw [gg_30_22, gg_30_23, gg_30_24, t4, t5, t6, gc_30, idu, gc_30, idu, gc_30, idu]
          generalize sp_mo d = mm at hml hDD t4 t5 t6 ⊢
          by_cases z82 : f = 82
          · rw [if_pos z82, if_pos z82]
            exact mF.ansN (fd_i2df _) qT hT
          · rw [if_neg z82, if_neg z82]
            by_cases z83 : f = 83
            · rw [if_pos z83, if_pos z83]
              exact mF.ansN (fd_i2df _) qT hT
            · rw [if_neg z83, if_neg z83]
              exact mF.ansN (fd_i2df _) qT hT
      · rw [if_neg (fun w => z2 (l2.mp w)), daC_none f i (if_pos (Or.inr (by omega)))]
        exact mF.f6 qU hU
  · rw [if_neg z, show ∀ c : gp_C, sx e c = gc_e e from fun c => if_neg z]
    exact mF.err qU hU z he
/-- the days, all -/
theorem mo_days (g : mG S a vs n) (hb : S.1 30 11 = gI 0) (hf : 81 ≤ f) (hf2 : f ≤ 91) (hn1 : 1 ≤ n) (n81 : f = 81 ∨ f = 88 → 3 ≤ n) (n82 : f = 82 ∨ f = 83 ∨ f = 84 → n = 1) (n85 : f = 85 → n ≤ 2) (n86 : f = 86 ∨ f = 87 → n = 2) : mF h S (f_M_days (some 30) (gI f) (gI a) (gI n) (gv_ov h S)) (gV_1 (sp_da f vs n)) := by
  have h16 := g.1
  unfold f_M_days f_M_days_b12
  rw [gI_lit 81, gI_lit 88, gI_lit 2, ite_eq _ _ _ _ (by omega) (by omega), ite_eq _ _ _ _ (by omega) (by omega)]
  by_cases z81 : f = 81
  · have := mo_ofThree (h := h) g hb (n81 (Or.inl z81)) (Or.inl z81)
    have es : sp_da f vs n = sx (bl (bl (sW vs 0) (sW vs 1)) (sW vs 2)) (sp_dat (sw_x vs 0) (sw_x vs 1) (sw_x vs 2)) := if_pos z81
    rw [if_pos z81] at this
    rw [if_pos z81, gc_30, gu_idU, es]
    exact this
  by_cases z88 : f = 88
  · have := mo_ofThree (h := h) g hb (n81 (Or.inr z88)) (Or.inr z88)
    have es : sp_da f vs n = sx (bl (bl (sW vs 0) (sW vs 1)) (sW vs 2)) (sp_tim (sw_x vs 0) (sw_x vs 1) (sw_x vs 2)) := by
      unfold sp_da
      rw [if_neg (show ¬ f = 81 by omega), if_neg (show ¬ (f = 82 ∨ f = 83 ∨ f = 84) by omega), if_neg (show ¬ f = 85 by omega), if_neg (show ¬ (f = 86 ∨ f = 87) by omega), if_pos z88]
    rw [if_neg z81] at this
    rw [if_neg z81, if_pos z88, gc_30, gu_idU, es]
    exact this
  obtain ⟨a1, a2, a3⟩ := g.sN (k := 0) (by omega)
  obtain ⟨T, e1, e2, e3⟩ := m_numN (h := h) g (k := 0) (by omega) hb (by decide)
  rw [Nat.add_zero] at e1
  rw [bl_n] at e3
  rw [if_pos rfl] at e1
  have qT : mX mSt S T := e2.le fun _ _ z => mQ_st z
  rw [if_neg z81, if_neg z88, gc_30, e1, gk_ca_some, ite_le _ _ _ _ (by omega) (by omega), ite_eq _ _ _ _ (by omega) (by omega)]
  by_cases y : f ≤ 88
  · rw [if_pos y]
    have es : sp_da f vs n = sx (bl (sN vs 0).1 (if 85 ≤ f then oW vs n 1 else 0)) (daC f (sN vs 0).2 (if 85 ≤ f then oX vs n 1 else 1)) := by
      unfold sp_da
      rw [if_neg z81]
      by_cases k : f = 82 ∨ f = 83 ∨ f = 84
      · rw [if_pos k, if_neg (show ¬ 85 ≤ f by omega), bl_f0]
        unfold daC
        rw [if_neg (show ¬ f = 85 by omega), if_neg (show ¬ (f = 86 ∨ f = 87) by omega)]
      · rw [if_neg k, if_pos (show 85 ≤ f by omega), if_pos (show 85 ≤ f by omega)]
        unfold daC
        by_cases k5 : f = 85
        · rw [if_pos k5, if_pos k5]
        · have n2 := n86 (by omega)
          have ew : oW vs n 1 = sW vs 1 := if_pos (by omega)
          have ex : oX vs n 1 = sw_x vs 1 := if_pos (by omega)
          rw [if_neg k5, if_neg k5, if_pos (show f = 86 ∨ f = 87 by omega), if_pos (show f = 86 ∨ f = 87 by omega), ew, ex]
    rw [es]
    by_cases k2 : n = 2
    · obtain ⟨w1, w2, w3⟩ := g.sW (k := 1) (by omega)
      obtain ⟨T2, q1, q2, q3⟩ := m_whoW (h := h) (g.st qT) (k := 1) (by omega) e3 a3
      have ew : oW vs n 1 = sW vs 1 := if_pos (by omega)
      have ex : oX vs n 1 = sw_x vs 1 := if_pos (by omega)
      have qT2 : mX mSt S T2 := qT.trans (q2.le fun _ _ z => mQ_st z)
      have hle := bl_le a3 w1
      have f85 : 85 ≤ f := by omega
      rw [if_pos k2, show gI a + (1 : Int32) = gI (a + 1) from gI_add _ 1, gc_30, q1, gk_ca_some, if_pos f85, if_pos f85, ew, ex]
      have key : ∀ i : Int, -9007199254740992 < i → i < 9007199254740992 → (bl (sN vs 0).1 (sW vs 1) = 0 → i = sw_x vs 1) → mF h S (f_M_days_b56 (some 30) (gI f) (sN vs 0).2 (gJ i) (gv_ov h T2)) (gV_1 (sx (bl (sN vs 0).1 (sW vs 1)) (daC f (sN vs 0).2 (sw_x vs 1)))) := fun i i1 i2 inv => by
        have := mo_da56 (h := h) qT2 q3 hle a1 (show 82 ≤ f ∧ f ≤ 87 by omega) i i1 i2
        by_cases z : bl (sN vs 0).1 (sW vs 1) = 0
        · rw [inv z] at this ⊢
          exact this
        · rw [show ∀ c : gp_C, sx (bl (sN vs 0).1 (sW vs 1)) c = gc_e (bl (sN vs 0).1 (sW vs 1)) from fun c => if_neg z] at this ⊢
          exact this
      refine key _ (by split <;> omega) (by split <;> omega) fun z => ?_
      rw [if_pos (bl_z.mp z).1]
    · have ew : (if 85 ≤ f then oW vs n 1 else 0) = 0 := by
        split
        · exact if_neg (by omega)
        · rfl
      have ex : (if 85 ≤ f then oX vs n 1 else 1) = 1 := by
        split
        · exact if_neg (by omega)
        · rfl
      rw [if_neg k2, ew, ex, bl_f0, show (1 : Int64) = gJ 1 from gJl_1]
      exact mo_da56 qT e3 a3 a1 (by omega) 1 (by decide) (by decide)
  · rw [if_neg y, gc_30, gu_idU]
    have es : sp_da f vs n = sx (sN vs 0).1 (sp_pod f (sN vs 0).2) := by
      unfold sp_da
      rw [if_neg z81, if_neg (show ¬ (f = 82 ∨ f = 83 ∨ f = 84) by omega), if_neg (show ¬ f = 85 by omega), if_neg (show ¬ (f = 86 ∨ f = 87) by omega), if_neg z88]
    rw [es]
    exact mo_timeOf qT e3 a3 a1 (by omega) fun _ => rfl
end MDS
