/-! THE PURE PART: the reference's 15 to 18 -/
theorem fd_z2 {m : UInt64} (z : fd_k m = 0) : m = 0 ∨ m = 0x8000000000000000 := by
  have hl := m.toNat_lt
  unfold fd_k FP.Core.dkey at z
  by_cases y : 2 ^ 63 ≤ m.toNat
  · rw [if_pos y] at z
    refine Or.inr (UInt64.toNat_inj.mp ?_)
    show m.toNat = 9223372036854775808
    omega
  · rw [if_neg y] at z
    exact Or.inl (UInt64.toNat_inj.mp (by
      show m.toNat = 0
      omega))
theorem fd_c_k {a b : UInt64} (h : fd_c a = fd_c b) : fd_k a = fd_k b := by rw [← fd_kc a, ← fd_kc b, h]
theorem fd_c_eq {a b : UInt64} (h : fd_c a = fd_c b) (z : fd_k a ≠ 0) : a = b := by
  have hk := fd_c_k h
  unfold fd_c at h
  rw [if_neg z, if_neg (by rw [← hk]; exact z)] at h
  exact h
/-- a nothing, whatever its sign, adds nothing -/
theorem fd_z_add {a b : UInt64} (hz : fd_k a = 0) (hb : fd_f b) (hcb : fd_c b = b) : FP.dadd a b = b := by
  have hne : b ≠ FP.Core.dzeroNeg := fun y => by
    rw [y] at hcb
    revert hcb
    decide +kernel
  rcases fd_z2 hz with rfl | rfl
  · have e1 : FP.Core.dadd 0 b = FP.Core.dadd b 0 := FP.Core.dadd_comm 0 b
    have e2 : FP.Core.dadd b 0 = b := FP.Core.dadd_zero hb.n hne
    exact e1.trans e2
  · have e1 : FP.Core.dadd 0x8000000000000000 b = FP.Core.dadd b 0x8000000000000000 := FP.Core.dadd_comm _ b
    have e2 : FP.Core.dadd b 0x8000000000000000 = b := FP.Core.dadd_zeroNeg hb.n
    exact e1.trans e2
theorem fd_add_c {a a' b : UInt64} (h : fd_c a = fd_c a') (hb : fd_f b) (hcb : fd_c b = b) : FP.dadd a b = FP.dadd a' b := by
  by_cases z : fd_k a = 0
  · rw [fd_z_add z hb hcb, fd_z_add (by rw [← fd_c_k h]; exact z) hb hcb]
  · rw [fd_c_eq h z]
theorem fd_add_0c {a : UInt64} (ha : fd_n a) : fd_c (FP.dadd a 0) = fd_c a := by
  by_cases y : a = FP.Core.dzeroNeg
  · rw [y]
    decide +kernel
  · have e : FP.Core.dadd a 0 = a := FP.Core.dadd_zero ha y
    exact congrArg fd_c e
theorem fd_z_div : ∀ n : Fin 17, 1 ≤ n.val → fd_c (FP.ddiv 0 (FP.i2d (gI n.val))) = 0 ∧ fd_c (FP.ddiv 0x8000000000000000 (FP.i2d (gI n.val))) = 0 := by decide +kernel
theorem fd_div_c {a a' : UInt64} (h : fd_c a = fd_c a') (n : Nat) (h1 : 1 ≤ n) (h2 : n ≤ 16) : fd_c (FP.ddiv a (FP.i2d (gI n))) = fd_c (FP.ddiv a' (FP.i2d (gI n))) := by
  by_cases z : fd_k a = 0
  · obtain ⟨d1, d2⟩ := fd_z_div ⟨n, by omega⟩ h1
    have f : ∀ b, fd_k b = 0 → fd_c (FP.ddiv b (FP.i2d (gI n))) = 0 := fun b hb => by
      rcases fd_z2 hb with rfl | rfl
      · exact d1
      · exact d2
    rw [f a z, f a' (by rw [← fd_c_k h]; exact z)]
  · rw [fd_c_eq h z]
theorem gc_num_c {a b : UInt64} (h : fd_c a = fd_c b) : gc_num a = gc_num b := by
  have hk := fd_c_k h
  unfold gc_num
  rw [hk]
  by_cases z : -9218868437227405311 ≤ fd_k b ∧ fd_k b ≤ 9218868437227405311
  · rw [if_pos z, if_pos z, gc_n_c h]
  · rw [if_neg z, if_neg z]
theorem fin_c {a b : UInt64} (h : fd_c a = fd_c b) : fin a ↔ fin b := by
  have hk := fd_c_k h
  unfold fin
  rw [hk]
section MCO
variable {h : gk_H} {S S0 S1 : gv_S} {w : gp_C} {rel a n f : Nat} {vs : Nat → gp_V} {U : gp_V}
/-- the loop of 16 to 18 -/
theorem mco_100 (hf : f = 16 ∨ f = 17 ∨ f = 18) {fr : Nat} (hha : a < 16) (hfr : fr < 16) (hV : gp_okV (vs 0)) (hU : gp_okV U) (hsh : cellsN U = cellsN (vs 0)) : ∀ (r k fu me nu nc : Nat) (sm ss : UInt64) (T : gv_S), k + r = cellsN (vs 0) → r < fu → me ≤ k → nu ≤ k → (f ≠ 16 → nc = nu) → fd_f sm → fd_f ss → fd_c sm = fd_c ss → mX mSt S0 T → mv T a (vs 0) → mv T fr U → mCo T rel w → T.1 30 11 = gI 0 → mF h S0 (f_M_conditions_b100 fu (some 30) (gI f) (gI a) (gI fr) (gI me) (gI nu) sm (gI k) (gv_ov h T)) (gV_1 (sp_otmR f (sp_otm f rel w (vs 0).2.2.2 U.2.2.2 r k me nc ss))) := by
  have h16 := hV.2.2.1
  have h16' : cellsN (vs 0) ≤ 16 := h16
  have q16 : (gI f = (16 : Int32)) = (f = 16) := gI_eq f 16 (by omega) (by decide)
  have q17 : (gI f = (17 : Int32)) = (f = 17) := gI_eq f 17 (by omega) (by decide)
  have b237 : ∀ (T : gv_S) (v : UInt64) (c : gp_C), mX mSt S0 T → mV c v T → isR c → mF h S0 (f_M_conditions_b237 (some 30) v (gv_ov h T)) (gV_1 c) := fun T v c q hv hc => by
    unfold f_M_conditions_b237
    rw [gc_30, gu_idU]
    exact mF.ans hv q hc
  -- the end
  have b196 : ∀ (me nu nc : Nat) (sm ss : UInt64) (T : gv_S), me ≤ 16 → nu ≤ 16 → (f ≠ 16 → nc = nu) → fd_f sm → fd_f ss → fd_c sm = fd_c ss → mX mSt S0 T → T.1 30 11 = gI 0 → mF h S0 (f_M_conditions_b196 (some 30) (gI f) (gI me) (gI nu) sm (gv_ov h T)) (gV_1 (sp_otmR f (me, nc, ss))) := by
    intro me nu nc sm ss T hme hnu hnc hsm hss hcs q hb
    unfold f_M_conditions_b196 sp_otmR
    rw [gg_30_11, hb, itl0 0 (by decide), if_pos rfl]
    simp only [q16, q17]
    by_cases z1 : f = 16
    · rw [if_pos z1, if_pos z1]
      exact b237 T _ _ q ⟨hb, (fd_i2df _).n, fun _ => ⟨rfl, fd_i2df _⟩⟩ (isR.n _)
    · have en := hnc z1
      rw [if_neg z1, if_neg z1]
      by_cases z2 : f = 17
      · rw [if_pos z2, if_pos z2, gc_num_f ((fin_f hss.n).mpr hss), ← gc_n_c hcs]
        exact b237 T _ _ q ⟨hb, hsm.n, fun _ => ⟨rfl, hsm⟩⟩ (isR.n _)
      · rw [if_neg z2, if_neg z2, en]
        obtain ⟨T2, v, d1, d2, d3⟩ := mNv.div (h := h) hsm (fd_i2df (gI nu)) hb
        have ec : (if fd_k (FP.i2d (gI nu)) = 0 then gc_e 2 else gc_num (FP.ddiv sm (FP.i2d (gI nu)))) = if nu = 0 then gc_e 2 else gc_num (FP.ddiv ss (FP.i2d (gI nu))) := by
          by_cases y : nu = 0
          · rw [if_pos y, if_pos (by rw [y]; decide +kernel)]
          · rw [if_neg y, if_neg (fd_i2nz (by omega) (by omega)).2, gc_num_c (fd_div_c hcs nu (by omega) hnu)]
        rw [ec] at d3
        rw [gc_30, d1, gk_ca_some]
        refine b237 T2 _ _ (q.trans (d2.le fun _ _ z => mB_st z)) d3 ?_
        split
        · exact isR.e (by decide) (by decide)
        · exact isR.num _
  have b196e : ∀ (me nu : Int32) (sm : UInt64) (T : gv_S), mX mSt S0 T → T.1 30 11 = gI 6 → mF h S0 (f_M_conditions_b196 (some 30) (gI f) me nu sm (gv_ov h T)) (gV_1 (gc_e 6)) := fun me nu sm T q hb => by
    unfold f_M_conditions_b196
    rw [gg_30_11, hb, bad_gt 6 (by decide) (by decide)]
    exact mF.err q hb (by decide) (by decide)
  intro r
  induction r with
  | zero =>
    intro k fu me nu nc sm ss T hk hfu hme hnu hnc hsm hss hcs q hm hmU hC hb
    obtain ⟨fu, rfl⟩ : ∃ g, fu = g + 1 := ⟨fu - 1, by omega⟩
    have ek : (vs 0).2.1 * (vs 0).2.2.1 ≤ k := by
      have : cellsN (vs 0) = (vs 0).2.1 * (vs 0).2.2.1 := rfl
      omega
    rw [f_M_conditions_b100]
    dsimp only
    rw [gr_30_5, ga_33 (by omega), gr_30_6, ga_34 (by omega), hm.2.2.1, hm.2.2.2.1, gI_mul, ite_le _ _ _ _ (by omega) (by omega), if_pos ek]
    exact b196 me nu nc sm ss T (by omega) (by omega) hnc hsm hss hcs q hb
  | succ r ih =>
    intro k fu me nu nc sm ss T hk hfu hme hnu hnc hsm hss hcs q hm hmU hC hb
    obtain ⟨fu, rfl⟩ : ∃ g, fu = g + 1 := ⟨fu - 1, by omega⟩
    have ek : ¬ (vs 0).2.1 * (vs 0).2.2.1 ≤ k := by
      have : cellsN (vs 0) = (vs 0).2.1 * (vs 0).2.2.1 := rfl
      omega
    have hkU : k < U.2.1 * U.2.2.1 := by
      have : cellsN U = U.2.1 * U.2.2.1 := rfl
      omega
    have hcell := hm.2.2.2.2 k (by omega)
    have hcok := hV.2.2.2.1 k (by omega)
    have ucell := hmU.2.2.2.2 k hkU
    have ucok := hU.2.2.2.1 k hkU
    have uk4 := ucok.1
    have finS := (fin_f hss.n).mpr hss
    have qu1 : (gI (U.2.2.2 k).1 = (1 : Int32)) = ((U.2.2.2 k).1 = 1) := gI_eq _ 1 (by omega) (by decide)
    have hmeet := m_meets (h := h) hcell hcok (show 16 * a + k < 256 by omega) hC
    have nx : ∀ (me' nu' nc' : Nat) (sm' ss' : UInt64), me' ≤ k + 1 → nu' ≤ k + 1 → (f ≠ 16 → nc' = nu') → fd_f sm' → fd_f ss' → fd_c sm' = fd_c ss' → mF h S0 (f_M_conditions_b190 (f_M_conditions_b100 fu) (some 30) (gI f) (gI a) (gI fr) (gI me') (gI nu') sm' (gI k) (gv_ov h T)) (gV_1 (sp_otmR f (sp_otm f rel w (vs 0).2.2.2 U.2.2.2 r (k + 1) me' nc' ss'))) := fun me' nu' nc' sm' ss' a1 a2 a3 a4 a5 a6 => by
      unfold f_M_conditions_b190
      rw [gk_let_eq, show gI k + (1 : Int32) = gI (k + 1) from gI_add _ 1]
      exact ih (k + 1) fu me' nu' nc' sm' ss' T (by omega) (by omega) a1 a2 a3 a4 a5 a6 q hm hmU hC hb
    have es : sp_otm f rel w (vs 0).2.2.2 U.2.2.2 (r + 1) k me nc ss = if sp_met rel w ((vs 0).2.2.2 k) = true then sp_otm f rel w (vs 0).2.2.2 U.2.2.2 r (k + 1) (me + 1) (nc + if (U.2.2.2 k).1 = 1 then 1 else 0) (FP.dadd ss (if f = 16 then 0 else (U.2.2.2 k).2.2.1)) else sp_otm f rel w (vs 0).2.2.2 U.2.2.2 r (k + 1) me nc ss := if_pos finS
    rw [f_M_conditions_b100]
    dsimp only
    rw [gr_30_5, ga_33 (by omega), gr_30_6, ga_34 (by omega), hm.2.2.1, hm.2.2.2.1, gI_mul, ite_le _ _ _ _ (by omega) (by omega), if_neg ek, gg_30_11, hb, ite0 0 (by decide), if_pos rfl, gI_lit 16, gI_mul, gI_add, gc_30, hmeet, gk_ca_some, ite_B, es]
    by_cases zm : sp_met rel w ((vs 0).2.2.2 k) = true
    · rw [if_pos zm, if_pos zm, gk_let_eq, show gI me + (1 : Int32) = gI (me + 1) from gI_add _ 1, ite_le _ _ _ _ (by omega) (by decide)]
      by_cases z16 : f ≤ 16
      · have h0 : fd_f (FP.dadd ss 0) := by
          have hn := fd_add_n hss fd_f0
          exact (fin_f hn).mp ((fin_c (fd_add_0c hss.n)).mpr finS)
        rw [if_pos z16, if_pos (show f = 16 by omega)]
        exact nx (me + 1) nu _ sm _ (by omega) (by omega) (fun y => absurd (show f = 16 by omega) y) hsm h0 (by rw [fd_add_0c hss.n]; exact hcs)
      · have en := hnc (by omega)
        rw [if_neg z16, if_neg (show ¬ f = 16 by omega), gr_30_7, gI_mul, gI_add, ga_35 (by omega), ucell.1]
        by_cases zu : (U.2.2.2 k).1 = 1
        · have emd : md (U.2.2.2 k) = (U.2.2.2 k).2.2.1 := if_pos zu
          have e2 : FP.dadd sm (U.2.2.2 k).2.2.1 = FP.dadd ss (U.2.2.2 k).2.2.1 := fd_add_c hcs ucok.2.1 ucok.2.2.1
          have ha := fd_add_n hss ucok.2.1
          rw [if_pos (show gI (U.2.2.2 k).1 = (1 : Int32) from qu1.mpr zu), gk_let_eq, show gI nu + (1 : Int32) = gI (nu + 1) from gI_add _ 1, gr_30_8, ga_36 (by omega), ucell.2.1, emd, e2, fd_dop ha, gc_30, if_pos zu]
          by_cases zf : fin (FP.dadd ss (U.2.2.2 k).2.2.1)
          · rw [m_stepF ha zf, gk_ca_some]
            exact nx (me + 1) (nu + 1) (nc + 1) _ _ (by omega) (by omega) (fun _ => by omega) ((fin_f ha).mp zf) ((fin_f ha).mp zf) rfl
          · have estop : ∀ m k' me' nc', sp_otm f rel w (vs 0).2.2.2 U.2.2.2 m k' me' nc' (FP.dadd ss (U.2.2.2 k).2.2.1) = (me', nc', FP.dadd ss (U.2.2.2 k).2.2.1) := fun m k' me' nc' => by
              cases m with
              | zero => rfl
              | succ m => exact if_neg zf
            have e6 : sp_otmR f (me + 1, nc + 1, FP.dadd ss (U.2.2.2 k).2.2.1) = gc_e 6 := by
              unfold sp_otmR
              rw [if_neg (show ¬ f = 16 by omega)]
              by_cases y : f = 17
              · rw [if_pos y]
                exact gc_num_i zf
              · obtain ⟨n1, n2⟩ := fd_i2nz (j := nc + 1) (by omega) (by omega)
                obtain ⟨i1, i2⟩ := fd_inf_div ha (fin_nf ha zf) n1 n2
                rw [if_neg y, if_neg (show ¬ (nc + 1 = 0) by omega)]
                exact gc_num_i (nf_fin i1 i2)
            have qT : mX mSt S0 (gv_uI T 30 11 (gI 6)) := q.trans (mX.I _ (mB_st ⟨rfl, rfl⟩))
            have hm6 : mv (gv_uI T 30 11 (gI 6)) a (vs 0) := hm.st (mX.I _ (mB_st ⟨rfl, rfl⟩)) hha
            rw [m_stepI ha zf hb, gk_ca_some, estop, e6]
            unfold f_M_conditions_b190
            obtain ⟨fu, rfl⟩ : ∃ g, fu = g + 1 := ⟨fu - 1, by omega⟩
            rw [gk_let_eq, show gI k + (1 : Int32) = gI (k + 1) from gI_add _ 1, f_M_conditions_b100]
            dsimp only
            rw [gr_30_5, ga_33 (by omega), gr_30_6, ga_34 (by omega), hm6.2.2.1, hm6.2.2.2.1, gI_mul, ite_le _ _ _ _ (by omega) (by omega), gg_30_11, gu11, ite0 6 (by decide), if_neg (show ¬ (6 = 0) by decide), ite_self]
            exact b196e _ _ _ _ qT (gu11 6)
        · have e0 : (U.2.2.2 k).2.2.1 = 0 := ucok.2.2.2.1 zu
          have h0 : fd_f (FP.dadd ss 0) := by
            have hn := fd_add_n hss fd_f0
            exact (fin_f hn).mp ((fin_c (fd_add_0c hss.n)).mpr finS)
          rw [if_neg (show ¬ gI (U.2.2.2 k).1 = (1 : Int32) from fun y => zu (qu1.mp y)), if_neg zu, e0]
          exact nx (me + 1) nu (nc + 0) sm _ (by omega) (by omega) (fun _ => en) hsm h0 (by rw [fd_add_0c hss.n]; exact hcs)
    · rw [if_neg zm, if_neg zm]
      exact nx me nu nc sm ss (by omega) (by omega) hnc hsm hss hcs
theorem one_of {V : gp_V} (hV : gp_okV V) (e : sp_err (sp_1 V) = 0) : V.2.1 * V.2.2.1 = 1 ∧ (sp_1 V).1 ≠ 4 := by
  have k1 : V.2.1 * V.2.2.1 = 1 := by
    by_cases y : V.2.1 * V.2.2.1 = 1
    · exact y
    · rw [show sp_1 V = gc_e 3 from if_neg y] at e
      cases e
  refine ⟨k1, fun y => ?_⟩
  have hok := sp_1_ok hV
  unfold sp_err at e
  rw [if_pos y] at e
  have := hok.2.2.2.2.2.1 y
  omega
theorem mo_those (g : mG S a vs n) (hb : S.1 30 11 = gI 0) (hf : f = 16 ∨ f = 17 ∨ f = 18) (hn2 : 2 ≤ n) (hn3 : n ≤ 3) : mF h S (f_M_conditions (some 30) (gI f) (gI a) (gI n) (gv_ov h S)) (gV_1 (sp_those f vs n)) := by
  have h16 := g.1
  have ok1 := sp_1_ok (g.ok (k := 1) (by omega))
  have e1 := sp_err_le ok1
  obtain ⟨T, p1, p2, p3⟩ := m_wantAny (h := h) (g.2 1 (by omega)) (by omega) hb (by decide)
  rw [bl_n] at p3
  have q : mX mSt S T := p2.le fun _ _ z => mQ_st z
  have gT := g.st q
  have nf : ¬ gI f = (15 : Int32) := by rcases hf with rfl | rfl | rfl <;> decide
  unfold f_M_conditions sp_those
  rw [if_neg nf, show gI a + (1 : Int32) = gI (a + 1) from gI_add _ 1, gc_30, p1, gk_ca_some, gg_30_11, p3, itl0 _ e1]
  by_cases z : sp_err (sp_1 (vs 1)) = 0
  · rw [z] at p3
    obtain ⟨o1, o4⟩ := one_of (g.ok (k := 1) (by omega)) z
    have b42 : ∀ (fr : Nat) (U : gp_V), fr < 16 → mv T fr U → mF h S (f_M_conditions_b42 (some 30) (gI f) (gI a) (gI (16 * (a + 1))) (gI fr) (gv_ov h T)) (gV_1 (sp_otM f vs U)) := by
      intro fr U hfr hmU
      have hm0 := gT.2 0 (by omega)
      rw [Nat.add_zero] at hm0
      have hV := hm0.1
      have hU := hmU.1
      have v1 := hV.1
      have v2 := hV.2.1
      have v3 := hV.2.2.1
      have u1 := hU.1
      have u2 := hU.2.1
      have u3 := hU.2.2.1
      have lv1 : (vs 0).2.1 ≤ 16 := Nat.le_trans (Nat.le_mul_of_pos_right _ v2) v3
      have lv2 : (vs 0).2.2.1 ≤ 16 := Nat.le_trans (Nat.le_mul_of_pos_left _ v1) v3
      have lu1 : U.2.1 ≤ 16 := Nat.le_trans (Nat.le_mul_of_pos_right _ u2) u3
      have lu2 : U.2.2.1 ≤ 16 := Nat.le_trans (Nat.le_mul_of_pos_left _ u1) u3
      have b76 : mF h S (f_M_conditions_b76 (some 30) (gv_ov h T)) (gV_1 (gc_e 3)) := by
        unfold f_M_conditions_b76
        rw [gc_30, gu_idU, gI_lit 3, m_fail 0 3 p3 (by decide), bl_n]
        exact mF.err (q.trans (mX.I _ (mB_st ⟨rfl, rfl⟩))) (gu11 3) (by decide) (by decide)
      unfold f_M_conditions_b42 sp_otM
      rw [gr_30_5, ga_33 (by omega), gr_30_5, ga_33 (by omega), hmU.2.2.1, hm0.2.2.1, ite_eq _ _ _ _ (by omega) (by omega)]
      by_cases y1 : U.2.1 = (vs 0).2.1
      · rw [if_pos y1, gr_30_6, ga_34 (by omega), gr_30_6, ga_34 (by omega), hmU.2.2.2.1, hm0.2.2.2.1, ite_eq _ _ _ _ (by omega) (by omega)]
        by_cases y2 : U.2.2.1 = (vs 0).2.2.1
        · have hs : sameSh U (vs 0) = true := decide_eq_true ⟨y1, y2⟩
          have hm1 := gT.2 1 (by omega)
          obtain ⟨c1, c2⟩ := hm1.c0 o1
          obtain ⟨T2, d1, d2, d3⟩ := m_condition (h := h) c1 c2 (by omega) o4
          have q2 : mX mSt T T2 := d2.le fun _ _ z => mCf_st z
          have hb2 : T2.1 30 11 = gI 0 := by
            rw [d2.i (fun w => by unfold mCf at w; omega)]
            exact p3
          rw [if_pos y2, if_pos hs, gc_30, d1, gk_ca_some]
          have hce : cellsN U = cellsN (vs 0) := by
            unfold cellsN
            rw [y1, y2]
          exact mco_100 (h := h) (S0 := S) hf (by omega) hfr hV hU hce (cellsN (vs 0)) 0 gk_F 0 0 0 0 0 T2 (Nat.zero_add _) (by have : cellsN (vs 0) ≤ 16 := v3; unfold gk_F; omega) (Nat.le_refl _) (Nat.le_refl _) (fun _ => rfl) fd_f0 fd_f0 rfl (q.trans q2) (hm0.st q2 (by omega)) (hmU.st q2 hfr) d3 hb2
        · have hs : ¬ sameSh U (vs 0) = true := fun w => y2 (of_decide_eq_true w).2
          rw [if_neg y2, if_neg hs]
          exact b76
      · have hs : ¬ sameSh U (vs 0) = true := fun w => y1 (of_decide_eq_true w).1
        rw [if_neg y1, if_neg hs]
        exact b76
    rw [if_pos z, gI_lit 3, ite_eq _ _ _ _ (by omega) (by decide), show sx (sp_err (sp_1 (vs 1))) (sp_otM f vs (if 2 < n then vs 2 else vs 0)) = sp_otM f vs (if 2 < n then vs 2 else vs 0) from if_pos z]
    by_cases y : n = 3
    · rw [if_pos y, if_pos (show 2 < n by omega), show gI a + (2 : Int32) = gI (a + 2) from gI_add _ 2]
      exact b42 (a + 2) (vs 2) (by omega) (gT.2 2 (by omega))
    · rw [if_neg y, if_neg (show ¬ 2 < n by omega)]
      have := gT.2 0 (by omega)
      rw [Nat.add_zero] at this
      exact b42 a (vs 0) (by omega) this
  · rw [if_neg z, show sx (sp_err (sp_1 (vs 1))) (sp_otM f vs (if 2 < n then vs 2 else vs 0)) = gc_e (sp_err (sp_1 (vs 1))) from if_neg z]
    exact mF.err q p3 z e1
end MCO
