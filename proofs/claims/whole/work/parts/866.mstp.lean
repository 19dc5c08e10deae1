/-! THE PURE PART: the reference's steps (29 to 32) and roundings (33, 34) -/
theorem fd_add_neg {a b : UInt64} (ha : fd_p a) (fa : fd_f a) (hb : fd_p b) (fb : fd_f b) : FP.dadd (FP.dneg a) (FP.dneg b) = FP.dneg (FP.dadd a b) := by
  have hn := fd_add_n fa fb
  have n1 := fd_add_n ((fd_dneg fa.n).2.2.2 fa) ((fd_dneg fb.n).2.2.2 fb)
  refine FP.Core.val64_inj n1 ?_
  have e1 : FP.Core.val64 (FP.dadd (FP.dneg a) (FP.dneg b)) = FP.Core.round FP.Core.b64 (FP.Core.exactSum (FP.Core.val64 (FP.dneg a)) (FP.Core.val64 (FP.dneg b))) := FP.Core.val64_dadd _ _
  have e2 : FP.Core.val64 (FP.dadd a b) = FP.Core.round FP.Core.b64 (FP.Core.exactSum (FP.Core.val64 a) (FP.Core.val64 b)) := FP.Core.val64_dadd _ _
  have e3 : FP.Core.val64 (FP.dneg (FP.dadd a b)) = FP.Core.negate (FP.Core.val64 (FP.dadd a b)) := FP.val64_dneg _
  have e4 : FP.Core.val64 (FP.dneg a) = FP.Core.negate (FP.Core.val64 a) := FP.val64_dneg _
  have e5 : FP.Core.val64 (FP.dneg b) = FP.Core.negate (FP.Core.val64 b) := FP.val64_dneg _
  obtain ⟨c, q, va⟩ := ha.vf fa
  obtain ⟨d, r, vb⟩ := hb.vf fb
  rw [e1, e3, e2, FP.Core.negate_round, e4, e5, va, vb]
  congr 1
  have hu : FP.Core.sumUnits true c q true d r (min q r) = -FP.Core.sumUnits false c q false d r (min q r) := by
    have s1 : ∀ n : Nat, FP.Core.signed true n = -(n : Int) := fun _ => rfl
    have s0 : ∀ n : Nat, FP.Core.signed false n = (n : Int) := fun _ => rfl
    unfold FP.Core.sumUnits
    rw [s1, s1, s0, s0]
    omega
  show FP.Core.Datum.fin (FP.Core.sumSign true true (FP.Core.sumUnits true c q true d r (min q r))) (FP.Core.sumUnits true c q true d r (min q r)).natAbs (min q r) = FP.Core.Datum.fin (!(FP.Core.sumSign false false (FP.Core.sumUnits false c q false d r (min q r)))) (FP.Core.sumUnits false c q false d r (min q r)).natAbs (min q r)
  rw [hu, Int.natAbs_neg]
  congr 1
  have hs : 0 ≤ FP.Core.sumUnits false c q false d r (min q r) := by
    have s0 : ∀ n : Nat, FP.Core.signed false n = (n : Int) := fun _ => rfl
    unfold FP.Core.sumUnits
    rw [s0, s0]
    omega
  generalize FP.Core.sumUnits false c q false d r (min q r) = w at hs
  unfold FP.Core.sumSign
  by_cases z : w = 0
  · rw [z]
    rfl
  · rw [if_neg z, if_neg (by omega), decide_eq_true (by omega), decide_eq_false (by omega)]
    rfl
theorem fd_max1 : fd_f (FP.dadd 0x7fefffffffffffff 0x3ff0000000000000) := by
  have : (FP.dadd 0x7fefffffffffffff 0x3ff0000000000000).toNat < 9218868437227405312 := by decide +kernel
  exact (fd_pf this).1
theorem fd_max2 : fd_v 0x7feffffffffffffe + fd_P ≤ fd_v 0x7fefffffffffffff := by decide +kernel
/-- one more than what isn't small is a number -/
theorem fd_add1 {y : UInt64} (hy : fd_f y) (hk : 0 ≤ fd_k y) : fd_f (FP.dadd y 0x3ff0000000000000) := by
  have hn := fd_add_n hy fd_1_f
  have hk2 := ((fd_f_k hy.n).mp hy).2
  by_cases z : fd_k y = 9218868437227405311
  · have : y = 0x7fefffffffffffff := fd_k_inj (by rw [z, fd_max_k]) (by omega)
    rw [this]
    exact fd_max1
  · have nt : fd_n 0x7feffffffffffffe := (FP.Core.ne_nan _).mpr (by decide)
    have kt : fd_k 0x7feffffffffffffe = 9218868437227405310 := by decide
    have h1 : fd_v y ≤ fd_v 0x7feffffffffffffe := (fd_kv_le hy.n nt).mp (by omega)
    have h2 := fd_max2
    have v1 : fd_v 0x3ff0000000000000 = fd_P := by
      have := fd_i1.v
      omega
    have h3 := FP.Core.sum_le FP.Core.good_b64 hy fd_1_f (FP.Core.val64_fits y) (FP.Core.val64_fits 0x3ff0000000000000) (FP.Core.val64_fits 0x7fefffffffffffff) fd_max_n (by
      show fd_v y + fd_v 0x3ff0000000000000 ≤ fd_v 0x7fefffffffffffff
      omega)
    rw [← FP.Core.val64_dadd] at h3
    have h4 : fd_v (FP.dadd y 0x3ff0000000000000) ≤ fd_v 0x7fefffffffffffff := h3
    have h5 := (fd_kv_le hn fd_max_n).mpr h4
    rw [fd_max_k] at h5
    have h6 := FP.Core.sum_ge FP.Core.good_b64 hy fd_1_f (FP.Core.val64_fits y) (FP.Core.val64_fits 0x3ff0000000000000) (FP.Core.val64_fits 0) fd_0_n (by
      show fd_v 0 ≤ fd_v y + fd_v 0x3ff0000000000000
      have := (fd_kv_0 hy.n).2.2.2.mp hk
      have := fd_P_pos
      rw [fd_v0]
      omega)
    rw [← FP.Core.val64_dadd] at h6
    have h7 : fd_v 0 ≤ fd_v (FP.dadd y 0x3ff0000000000000) := h6
    rw [fd_v0] at h7
    have h8 := (fd_kv_0 hn).2.2.2.mpr h7
    exact (fd_f_k hn).mpr ⟨by omega, h5⟩
theorem fd_1l : (0x3ff0000000000000 : UInt64) = FP.l2d (gJ 1) := by decide +kernel
section MST
variable {h : gk_H} {S S0 S1 : gv_S} {c : gp_C} {vl x y : UInt64} {e : Nat}
/-- the sign put to a size -/
theorem ms_73 (hx : fd_n x) (z : UInt64) (h : gk_H) : f_M_steps_b73 x z h = some (if fd_k x < 0 then FP.dneg z else z, h) := by
  unfold f_M_steps_b73 f_M_steps_b87
  rw [fi_ge _ _ hx fd_0_n, fd_k0]
  by_cases w : fd_k x < 0
  · rw [if_neg (show ¬ 0 ≤ fd_k x by omega), if_pos w]
  · rw [if_pos (show 0 ≤ fd_k x by omega), if_neg w]
theorem ms_18 (hx : fd_f x) (f : Nat) (hf : f = 29 ∨ f = 30) (hb : S.1 30 11 = gI 0) : mNv h S (f_M_steps_b18 (gI f) x (wr_y x) (gv_ov h S)) (if f = 29 then sp_even x else sp_odd x) := by
  have hy := (wr_yn hx.n).1
  have hyf := wr_y_f hx
  have hyk := wr_y_k hx.n
  have hcn := s_ce_n hy
  unfold f_M_steps_b18 f_M_steps_b48 f_M_steps_b49
  rw [mo_ceiling hy, gk_ca_some, fi_ge _ _ hcn fd_53_n, fd_53_k]
  by_cases hb2 : -4845873199050653696 < fd_k x ∧ fd_k x < 4845873199050653696
  · obtain ⟨l1, l2, l3, l4⟩ := s_lst_b hx.n hb2
    have il := fd_l2d (z := s_lst x) (by omega) (by omega)
    have hlk : fd_k (s_ce (wr_y x)) < 4845873199050653696 := by
      rw [l3]
      have := (fd_in_v il.n).mpr (by
        rw [il.v]
        have hP := fd_P_pos
        have a1 : s_lst x * fd_P < 9007199254740992 * fd_P := fd_mulP.mpr (by omega)
        have a2 : 0 ≤ s_lst x * fd_P := Int.mul_nonneg l1 (by omega)
        omega)
      exact this.2
    have hm2 : 0 ≤ s_lst x % 2 ∧ s_lst x % 2 < 2 := ⟨Int.emod_nonneg _ (by decide), Int.emod_lt_of_pos _ (by decide)⟩
    have b64 : ∀ (o k : Bool), f_M_steps_b64 x (FP.l2d (gJ (s_lst x))) (gB o) (gB k) (gv_ov h S) = some (if fd_k x < 0 then FP.dneg (FP.l2d (gJ (if o = k then s_lst x else s_lst x + 1))) else FP.l2d (gJ (if o = k then s_lst x else s_lst x + 1)), gv_ov h S) := fun o k => by
      unfold f_M_steps_b64
      by_cases w : o = k
      · rw [if_pos (by rw [w]), if_pos w, ms_73 hx.n]
      · have i1 : fd_n (FP.dadd (FP.l2d (gJ (s_lst x))) 0x3ff0000000000000) := fd_add_n il.f fd_1_f
        have : FP.dadd (FP.l2d (gJ (s_lst x))) 0x3ff0000000000000 = FP.l2d (gJ (s_lst x + 1)) := by
          rw [fd_1l]
          exact fd_addl (by omega) (by omega) (by decide) (by decide)
        rw [if_neg (by cases o <;> cases k <;> first | exact absurd rfl w | decide), if_neg w, fd_dop i1, ms_73 hx.n, this]
    have fin' : ∀ m : Int, 0 ≤ m → m ≤ 9007199254740992 → mNv h S (some (if fd_k x < 0 then FP.dneg (FP.l2d (gJ m)) else FP.l2d (gJ m), gv_ov h S)) (gc_n (FP.l2d (gJ (if fd_k x < 0 then -m else m)))) := fun m m0 m1 => by
      have im := fd_l2d (z := m) (by omega) (by omega)
      by_cases w : fd_k x < 0
      · rw [if_pos w, if_pos w]
        have e : gc_n (FP.l2d (gJ (-m))) = gc_n (FP.dneg (FP.l2d (gJ m))) := by
          refine gc_n_c ?_
          have i2 := fd_i0.sub im (by omega)
          have i3 := fd_l2d (z := -m) (by omega) (by omega)
          rw [show (0 : Int) - m = -m by omega] at i2
          rw [← fd_neg_c im.n]
          exact i3.c i2
        rw [e]
        exact mNv.val ((fd_dneg im.n).2.2.2 im.f) hb
      · rw [if_neg w, if_neg w]
        exact mNv.val im.f hb
    have eo : ∀ {β : Type} (X Y : β), (if (lg_cmp (FP.d2l (s_ce (wr_y x)) - FP.d2l (s_ce (wr_y x)) / (2 : Int64) * (2 : Int64)) (1 : Int64)) = 0 then X else Y) = if s_lst x % 2 = 1 then X else Y := fun X Y => by
      rw [l4, gJ_mod2 _ l1 (by omega), show (1 : Int64) = gJ 1 from rfl]
      exact jte_eq _ _ _ _ (by omega) (by omega) (by decide) (by decide)
    rw [if_neg (show ¬ 4845873199050653696 ≤ fd_k (s_ce (wr_y x)) by omega), eo, l3]
    have o1 : (1 : Int32) = gB true := rfl
    have o0 : (0 : Int32) = gB false := rfl
    have sg : fd_k x = 0 → s_lst x = 0 := fun z => by
      have hw : wr_y x = x := by
        unfold wr_y
        rw [if_neg (by omega)]
      unfold s_lst fd_ce
      rw [hw, (fd_kv_0 hx.n).1.mp z, Int.neg_zero, Int.zero_ediv, Int.neg_zero]
    have ev : sp_even x = gc_n (FP.l2d (gJ (if fd_k x < 0 then -(s_lst x + s_lst x % 2) else s_lst x + s_lst x % 2))) := by
      unfold sp_even
      rw [if_pos hb2]
      congr 3
      unfold s_sg
      by_cases w : fd_k x < 0
      · rw [if_pos w, if_pos w]
        omega
      · rw [if_neg w, if_neg w]
        by_cases w2 : 0 < fd_k x
        · rw [if_pos w2]
          omega
        · rw [if_neg w2, sg (by omega)]
          rfl
    have od : sp_odd x = gc_n (FP.l2d (gJ (if fd_k x < 0 then -(s_lst x + 1 - s_lst x % 2) else s_lst x + 1 - s_lst x % 2))) := by
      unfold sp_odd
      rw [if_pos hb2]
    rcases hf with rfl | rfl
    · rw [if_pos rfl, ev]
      have q0 : ¬ (gI 29 = (30 : Int32)) := by decide
      by_cases w : s_lst x % 2 = 1
      · rw [if_pos w, if_neg q0, o1, o0, b64, if_neg (show ¬ (true = false) by decide), show s_lst x + s_lst x % 2 = s_lst x + 1 by omega]
        exact fin' _ (by omega) (by omega)
      · rw [if_neg w, if_neg q0, o0, b64, if_pos rfl, show s_lst x + s_lst x % 2 = s_lst x by omega]
        exact fin' _ (by omega) (by omega)
    · rw [if_neg (show ¬ (30 = 29) by decide), od]
      have q0 : gI 30 = (30 : Int32) := rfl
      by_cases w : s_lst x % 2 = 1
      · rw [if_pos w, if_pos q0, o1, b64, if_pos rfl, show s_lst x + 1 - s_lst x % 2 = s_lst x by omega]
        exact fin' _ (by omega) (by omega)
      · rw [if_neg w, if_pos q0, o0, o1, b64, if_neg (show ¬ (false = true) by decide), show s_lst x + 1 - s_lst x % 2 = s_lst x + 1 by omega]
        exact fin' _ (by omega) (by omega)
  · have hky := (wr_yn hx.n).2
    have hybig : 4845873199050653696 ≤ fd_k (wr_y x) := by
      rw [hky]
      split <;> omega
    have ece : s_ce (wr_y x) = wr_y x := by
      unfold s_ce
      rw [if_neg (by omega)]
    have back : (if fd_k x < 0 then FP.dneg (wr_y x) else wr_y x) = x := by
      unfold wr_y
      by_cases w : fd_k x < 0
      · rw [if_pos w, if_pos w]
        have e : fd_k (FP.dneg (FP.dneg x)) = fd_k x := by
          rw [(fd_dneg (fd_dneg hx.n).1).2.1, (fd_dneg hx.n).2.1]
          omega
        exact fd_k_inj e (by omega)
      · rw [if_neg w, if_neg w]
    rw [ece, if_pos hybig]
    unfold f_M_steps_b64
    rcases hf with rfl | rfl
    · rw [if_neg (show ¬ (gI 29 = (30 : Int32)) by decide), if_pos rfl, if_pos rfl, ms_73 hx.n, back]
      unfold sp_even
      rw [if_neg hb2]
      exact mNv.val hx hb
    · have hn1 := fd_add_n hyf fd_1_f
      have hf1 := fd_add1 hyf hyk
      rw [if_pos (show gI 30 = (30 : Int32) from rfl), if_neg (show ¬ ((0 : Int32) = (1 : Int32)) by decide), if_neg (show ¬ (30 = 29) by decide), fd_dop hn1, ms_73 hx.n]
      unfold sp_odd
      rw [if_neg hb2]
      by_cases w : fd_k x < 0
      · have ew : wr_y x = FP.dneg x := if_pos w
        have sg : s_sg x = -1 := if_pos w
        have em : FP.i2d (gN (-1)) = FP.dneg 0x3ff0000000000000 := by decide +kernel
        have ex : x = FP.dneg (wr_y x) := by
          rw [if_pos w] at back
          exact back.symm
        have en := fd_add_neg (fd_p_k hy (by omega)) hyf (fd_p_k fd_1_f.n (by decide)) fd_1_f
        rw [← ex] at en
        have hfn := (fd_dneg hf1.n).2.2.2 hf1
        rw [if_pos w, sg, em, en, gc_num_f ((fin_f hfn.n).mpr hfn)]
        exact mNv.val hfn hb
      · have ew : wr_y x = x := if_neg w
        have sg : s_sg x = 1 := by
          unfold s_sg
          rw [if_neg w, if_pos (by omega)]
        have e1 : FP.i2d (gN 1) = 0x3ff0000000000000 := by decide +kernel
        rw [if_neg w, sg, e1, ew]
        rw [ew] at hf1
        rw [gc_num_f ((fin_f hf1.n).mpr hf1)]
        exact mNv.val hf1 hb
/-- what functions 29 to 32 reckon -/
def sp_ste (f : Nat) (x y : UInt64) : gp_C := if f = 29 then sp_even x else if f = 30 then sp_odd x else if f = 31 then sp_cei x y else sp_flo x y
theorem ms_135 (hx : fd_f x) (hy : fd_f y) (hz : fd_k y ≠ 0) (f : Nat) (hf : f = 31 ∨ f = 32) (hb : S.1 30 11 = gI 0) : mNv h S (f_M_steps_b135 (some 30) (gI f) x y (gv_ov h S)) (sp_tw y (FP.ddiv x y) (decide (f = 31))) := by
  have hd := fd_ddiv hx.n hy hz
  unfold f_M_steps_b135 sp_tw
  rw [fd_dop hd, gc_30]
  by_cases w : fin (FP.ddiv x y)
  · have hq := (fin_f hd).mp w
    rw [m_stepF hd w, gk_ca_some, gg_30_11, hb, itl0 0 (by decide), if_pos rfl, if_pos w, mo_ceiling hd, mo_floor hd, gk_ca_some, gk_ca_some]
    unfold f_M_steps_b176
    have st : ∀ z : UInt64, fd_f z → mNv h S (gk_dop (FP.dmul y z) fun x1 => gk_cv (gv_ov h S) (some 30) 7 (f_M_step (some 30) x1 (gv_ov h S)) fun x2 h1 => some (x2, h1)) (gc_num (FP.dmul y z)) := fun z hz => by
      have hm := fd_mul_n hy hz
      obtain ⟨S', r, k1, k2, k3⟩ := m_stepV (h := h) hm hb
      rw [fd_dop hm, gc_30, k1, gk_ca_some]
      exact ⟨S', r, rfl, k2, k3⟩
    rcases hf with rfl | rfl
    · rw [if_pos (show gI 31 = (31 : Int32) from rfl)]
      exact st _ (s_ce_f hq)
    · rw [if_neg (show ¬ (gI 32 = (31 : Int32)) by decide)]
      exact st _ (s_fl_f hq)
  · rw [m_stepI hd w hb, gk_ca_some, gg_30_11, gu11, bad_gt 6 (by decide) (by decide), if_neg w]
    exact mNv.fl 6 fd_0_n (by decide) (by decide)
theorem mo_steps (hx : fd_f x) (hy : fd_f y) (f : Nat) (h1 : 29 ≤ f) (h2 : f ≤ 32) (hb : S.1 30 11 = gI 0) : mNv h S (f_M_steps (some 30) (gI f) x y (gv_ov h S)) (sp_ste f x y) := by
  unfold f_M_steps
  by_cases z : f = 29 ∨ f = 30
  · have e : sp_ste f x y = if f = 29 then sp_even x else sp_odd x := by
      unfold sp_ste
      rcases z with rfl | rfl
      · rfl
      · rfl
    have := ms_18 (h := h) hx f z hb
    rw [gI_lit 31, ite_le _ _ _ _ (by decide) (by omega), if_neg (by omega), fi_ge _ _ hx.n fd_0_n, fd_k0, e]
    unfold wr_y at this
    by_cases w : fd_k x < 0
    · rw [if_neg (show ¬ 0 ≤ fd_k x by omega)]
      rw [if_pos w] at this
      exact this
    · rw [if_pos (show 0 ≤ fd_k x by omega)]
      rw [if_neg w] at this
      exact this
  · have z' : f = 31 ∨ f = 32 := by omega
    rw [gI_lit 31, ite_le _ _ _ _ (by decide) (by omega), if_pos (by omega), fi_eq _ _ hy.n fd_0_n, fi_eq _ _ hx.n fd_0_n, fi_le _ _ hx.n fd_0_n, fi_ge _ _ hy.n fd_0_n, fd_k0, gI_lit 32, ite_eq _ _ _ _ (by omega) (by decide)]
    have e : sp_ste f x y = if f = 31 then sp_cei x y else sp_flo x y := by
      unfold sp_ste
      rw [if_neg (by omega), if_neg (by omega)]
    have z00 : fd_f 0 := fd_f0
    have b112 : ∀ T : gv_S, f_M_steps_b112 (gv_ov h T) = some (0, gv_ov h T) := fun _ => rfl
    rw [e]
    unfold sp_cei sp_flo
    by_cases w : fd_k y = 0
    · rw [if_pos w, if_pos w, if_pos w]
      by_cases w32 : f = 32
      · rw [if_pos w32, if_neg (show ¬ f = 31 by omega)]
        by_cases wx : fd_k x = 0
        · rw [if_pos wx, if_pos wx, b112]
          exact mNv.val z00 hb
        · rw [if_neg wx, if_neg wx, gc_30, gI_lit 2, m_fail 0 2 hb (by decide), gk_ca_some, bl_n, b112]
          exact mNv.fl 2 fd_0_n (by decide) (by decide)
      · rw [if_neg w32, if_pos (show f = 31 by omega), b112]
        exact mNv.val z00 hb
    · have e2 : (if f = 31 then sp_tw y (FP.ddiv x y) true else sp_tw y (FP.ddiv x y) false) = sp_tw y (FP.ddiv x y) (decide (f = 31)) := by
        by_cases q : f = 31
        · rw [if_pos q, decide_eq_true q]
        · rw [if_neg q, decide_eq_false q]
      have m135 := ms_135 (h := h) hx hy w f z' hb
      rw [if_neg w, if_neg w, if_neg w]
      by_cases wx : fd_k x ≤ 0
      · rw [if_pos wx, if_neg (show ¬ (0 < fd_k x ∧ fd_k y < 0) by omega), if_neg (show ¬ (0 < fd_k x ∧ fd_k y < 0) by omega), e2]
        exact m135
      · rw [if_neg wx]
        by_cases wy : 0 ≤ fd_k y
        · rw [if_pos wy, if_neg (show ¬ (0 < fd_k x ∧ fd_k y < 0) by omega), if_neg (show ¬ (0 < fd_k x ∧ fd_k y < 0) by omega), e2]
          exact m135
        · rw [if_neg wy, if_pos (show 0 < fd_k x ∧ fd_k y < 0 by omega), if_pos (show 0 < fd_k x ∧ fd_k y < 0 by omega), gc_30, gI_lit 6, m_fail 0 6 hb (by decide), gk_ca_some, bl_n, ite_self]
          exact mNv.fl 6 fd_0_n (by decide) (by decide)
theorem isR.tw (y q : UInt64) (up : Bool) : isR (sp_tw y q up) := by
  unfold sp_tw
  split
  · exact isR.num _
  · exact isR.e (by decide) (by decide)
theorem isR.ste (f : Nat) (x y : UInt64) : isR (sp_ste f x y) := by
  unfold sp_ste sp_even sp_odd sp_cei sp_flo
  repeat' split
  all_goals first | exact isR.n _ | exact isR.num _ | exact isR.tw _ _ _ | exact isR.e (by decide) (by decide)
end MST
