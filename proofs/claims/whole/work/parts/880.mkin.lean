/-! THE PURE PART: the reference's choices and kinds, all -/
theorem sxV_gc (e : Nat) (c : gp_C) : sxV e (gV_1 c) = gV_1 (sx e c) := by
  unfold sxV sx
  split <;> rfl
theorem ch_35 (vs : Nat → gp_V) (n : Nat) : sp_ch 35 vs n = sxV (sp_tru (sp_1 (vs 0))).1 (if (sp_tru (sp_1 (vs 0))).2 = true then vs 1 else if 2 < n then vs 2 else gV_1 (gc_b false)) := by
  unfold sp_ch
  rw [if_pos (by decide)]
theorem ch_36 (f : Nat) (hf : f = 36 ∨ f = 37) (vs : Nat → gp_V) (n : Nat) : sp_ch f vs n = if (vs 0).1 = 4 ∧ (f = 36 ∨ ((vs 0).2.2.2 0).2.1 = 7) then vs 1 else vs 0 := by
  unfold sp_ch
  rw [if_neg (by omega), if_pos hf]
theorem ch_38 (vs : Nat → gp_V) (n : Nat) : sp_ch 38 vs n = sxV (sW vs 0) (if sw_x vs 0 < 1 ∨ (n : Int) ≤ sw_x vs 0 then gV_1 (gc_e 3) else vs (sw_x vs 0).toNat) := by
  unfold sp_ch
  rw [if_neg (by decide), if_neg (by decide), if_pos (by decide)]
theorem ch_39 (f : Nat) (hf : f = 39 ∨ f = 40 ∨ f = 41) (vs : Nat → gp_V) (n : Nat) : sp_ch f vs n = gV_1 (sx (so_err vs n) (sp_of f (so_all vs n) (so_aff vs n))) := by
  unfold sp_ch
  rw [if_neg (by omega), if_neg (by omega), if_neg (by omega), if_pos hf]
theorem ch_42 (vs : Nat → gp_V) (n : Nat) : sp_ch 42 vs n = gV_1 (sx (sp_tru (sp_1 (vs 0))).1 (gc_b (!(sp_tru (sp_1 (vs 0))).2))) := by
  unfold sp_ch
  rw [if_neg (by decide), if_neg (by decide), if_neg (by decide), if_neg (by decide), if_pos (by decide)]
theorem ch_43 (vs : Nat → gp_V) (n : Nat) : sp_ch 43 vs n = gV_1 (gc_e 7) := by
  unfold sp_ch
  rw [if_neg (by decide), if_neg (by decide), if_neg (by decide), if_neg (by decide), if_neg (by decide), if_pos (by decide)]
theorem ch_44 (f : Nat) (hf : f = 44 ∨ f = 45) (vs : Nat → gp_V) (n : Nat) : sp_ch f vs n = gV_1 (gc_b (decide (f = 44))) := by
  unfold sp_ch
  rw [if_neg (by omega), if_neg (by omega), if_neg (by omega), if_neg (by omega), if_neg (by omega), if_neg (by omega), if_pos hf]
theorem ch_52 (vs : Nat → gp_V) (n : Nat) : sp_ch 52 vs n = gV_1 (sx (sp_err (sp_1 (vs 0))) (gc_n (if (sp_1 (vs 0)).1 = 3 then FP.i2d (gI (sp_1 (vs 0)).2.1) else (sp_1 (vs 0)).2.2.1))) := by
  unfold sp_ch
  rw [if_neg (by decide), if_neg (by decide), if_neg (by decide), if_neg (by decide), if_neg (by decide), if_neg (by decide), if_neg (by decide), if_pos (by decide)]
theorem ch_53 (vs : Nat → gp_V) (n : Nat) : sp_ch 53 vs n = gV_1 (sx (sp_err (sp_1 (vs 0))) (gc_t (sp_1 (vs 0)).2.2.2)) := by
  unfold sp_ch
  rw [if_neg (by decide), if_neg (by decide), if_neg (by decide), if_neg (by decide), if_neg (by decide), if_neg (by decide), if_neg (by decide), if_neg (by decide), if_pos (by decide)]
theorem ch_54 (vs : Nat → gp_V) (n : Nat) : sp_ch 54 vs n = gV_1 (gc_n (FP.i2d (gI (sp_typ (vs 0).1)))) := by
  unfold sp_ch
  rw [if_neg (by decide), if_neg (by decide), if_neg (by decide), if_neg (by decide), if_neg (by decide), if_neg (by decide), if_neg (by decide), if_neg (by decide), if_neg (by decide), if_pos (by decide)]
theorem ch_55 (vs : Nat → gp_V) (n : Nat) : sp_ch 55 vs n = gV_1 (if (sp_1 (vs 0)).1 = 4 then gc_n (FP.i2d (gI (sp_1 (vs 0)).2.1)) else gc_e 7) := by
  unfold sp_ch
  rw [if_neg (by decide), if_neg (by decide), if_neg (by decide), if_neg (by decide), if_neg (by decide), if_neg (by decide), if_neg (by decide), if_neg (by decide), if_neg (by decide), if_neg (by decide), if_pos (by decide)]
theorem ch_is (f : Nat) (hf : 46 ≤ f ∧ f ≤ 51) (vs : Nat → gp_V) (n : Nat) : sp_ch f vs n = gV_1 (gc_b (sp_is f (sp_1 (vs 0)))) := by
  unfold sp_ch
  rw [if_neg (by omega), if_neg (by omega), if_neg (by omega), if_neg (by omega), if_neg (by omega), if_neg (by omega), if_neg (by omega), if_neg (by omega), if_neg (by omega), if_neg (by omega), if_neg (by omega)]
theorem i2l_n {n : Nat} (hn : n ≤ 16) : Int32.toInt64 (gI n) = gJ (n : Int) := by
  have : ∀ k : Fin 17, Int32.toInt64 (gI k.val) = gJ (k.val : Int) := by decide +kernel
  exact this ⟨n, by omega⟩
theorem fd_7 : (0x401c000000000000 : UInt64) = FP.i2d (gI 7) := by decide +kernel
section MKI
variable {h : gk_H} {S S0 S1 : gv_S} {a n f : Nat} {vs : Nat → gp_V} {V : gp_V}
theorem mo_choices (g : mG S a vs n) (hb : S.1 30 11 = gI 0) (h1 : 35 ≤ f) (h2 : f ≤ 45) (hn8 : n ≤ 8) (n35 : f = 35 → 2 ≤ n ∧ n ≤ 3) (n36 : f = 36 ∨ f = 37 ∨ f = 38 → 2 ≤ n) (n42 : f = 42 → 1 ≤ n) : mF h S (f_M_choices (some 30) (gI f) (gI a) (gI n) (gv_ov h S)) (sp_ch f vs n) := by
  have h16 := g.1
  have q : ∀ (m : Nat), m < 1000 → (gI f = gI m) = (f = m) := fun m hm => gI_eq f m (by omega) (by omega)
  have o1 : (1 : Int32) = gB true := rfl
  have o0 : (0 : Int32) = gB false := rfl
  have b266 : ∀ h : gk_H, f_M_choices_b266 h = some ((), h) := fun _ => rfl
  unfold f_M_choices f_M_choices_b60
  simp only [b266]
  by_cases z35 : f = 35
  · obtain ⟨m1, m2⟩ := n35 z35
    have hm0 := g.2 0 (by omega)
    rw [Nat.add_zero] at hm0
    have ht := sp_tru_le' (sp_1_ok hm0.1)
    obtain ⟨T, e1, e2, e3⟩ := m_wantTruth (h := h) hm0 (by omega) hb (by decide)
    rw [bl_n] at e3
    rw [if_pos rfl] at e1
    have qX : mX mSt S T := e2.le fun _ _ w => mQ_st w
    have gT := g.st qX
    rw [z35, ch_35, if_pos (show gI 35 = (35 : Int32) from rfl), gc_30, e1, gk_ca_some, gg_30_11, e3, itl0 _ ht]
    by_cases z : (sp_tru (sp_1 (vs 0))).1 = 0
    · rw [z] at e3
      rw [if_pos z, show ∀ W : gp_V, sxV (sp_tru (sp_1 (vs 0))).1 W = W from fun W => if_pos z, ite_B, gI_lit 3, ite_eq _ _ _ _ (by omega) (by decide)]
      by_cases y : (sp_tru (sp_1 (vs 0))).2 = true
      · rw [if_pos y, if_pos y, show gI a + (1 : Int32) = gI (a + 1) from gI_add _ 1, gc_30, gu_idU]
        exact mF.copy (gT.2 1 (by omega)) (by omega) qX e3
      · rw [if_neg y, if_neg y]
        by_cases y3 : n = 3
        · rw [if_pos y3, if_pos (show 2 < n by omega), show gI a + (2 : Int32) = gI (a + 2) from gI_add _ 2, gc_30, gu_idU]
          exact mF.copy (gT.2 2 (by omega)) (by omega) qX e3
        · rw [if_neg y3, if_neg (show ¬ 2 < n by omega), gc_30, gu_idU]
          exact mF.ansT false qX e3 (by decide)
    · rw [if_neg z, show ∀ W : gp_V, sxV (sp_tru (sp_1 (vs 0))).1 W = gV_1 (gc_e (sp_tru (sp_1 (vs 0))).1) from fun W => if_neg z]
      exact mF.err qX e3 z ht
  · rw [if_neg (show ¬ gI f = (35 : Int32) from fun w => z35 ((q 35 (by decide)).mp w)), gI_lit 38, ite_le _ _ _ _ (by decide) (by omega)]
    by_cases z38 : 38 ≤ f
    · rw [if_pos z38, ite_eq _ _ _ _ (by omega) (by decide)]
      by_cases y38 : f = 38
      · have m1 := n36 (by omega)
        have hm0 := g.2 0 (by omega)
        obtain ⟨w1, w2, w3⟩ := g.sW (k := 0) (by omega)
        obtain ⟨T, e1, e2, e3⟩ := m_whoW (h := h) g (k := 0) (by omega) hb (by decide)
        rw [bl_n] at e3
        rw [if_pos rfl, Nat.add_zero] at e1
        have qX : mX mSt S T := e2.le fun _ _ w => mQ_st w
        have gT := g.st qX
        rw [if_pos y38, y38, ch_38, gc_30, e1, gk_ca_some, gg_30_11, e3, ite0 _ w1]
        have b169e : ∀ (T : gv_S) (e : Nat), mX mSt S T → T.1 30 11 = gI e → e ≠ 0 → e ≤ 8 → mF h S (f_M_choices_b169 (some 30) (gI a) (gJ (sw_x vs 0)) (gv_ov h T)) (gV_1 (gc_e e)) := fun T e hX hT h0 h8 => by
          unfold f_M_choices_b169 f_M_choices_b187
          rw [gg_30_11, hT, ite0 e h8, if_neg h0, b266]
          exact mF.err hX hT h0 h8
        by_cases z : sW vs 0 = 0
        · rw [z] at e3
          have b164 : mF h S (f_M_choices_b164 (some 30) (gI a) (gJ (sw_x vs 0)) (gv_ov h T)) (gV_1 (gc_e 3)) := by
            unfold f_M_choices_b164
            rw [gc_30, gI_lit 3, m_fail 0 3 e3 (by decide), bl_n, gk_ca_some]
            exact b169e _ 3 (qX.trans (mX.I _ (mB_st ⟨rfl, rfl⟩))) (gu11 3) (by decide) (by decide)
          rw [if_pos z, show ∀ W : gp_V, sxV (sW vs 0) W = W from fun W => if_pos z, show (1 : Int64) = gJ 1 from rfl, jte_lt _ _ _ _ (by omega) (by omega) (by decide) (by decide), i2l_n (by omega), jte_lt _ _ _ _ (by omega) (by omega) (by omega) (by omega)]
          by_cases c1 : sw_x vs 0 < 1
          · rw [if_pos c1, if_pos (Or.inl c1)]
            exact b164
          · by_cases c2 : sw_x vs 0 < (n : Int)
            · obtain ⟨i, hi⟩ : ∃ i : Nat, sw_x vs 0 = (i : Int) := ⟨(sw_x vs 0).toNat, by omega⟩
              rw [if_neg c1, if_pos c2, if_neg (by omega)]
              unfold f_M_choices_b169 f_M_choices_b187
              rw [gg_30_11, e3, ite0 0 (by decide), if_pos rfl, hi, gJ_toI i (by omega), gI_add, show ((i : Int)).toNat = i from rfl, gc_30]
              have := mF.copy (h := h) (S0 := S) (gT.2 i (by omega)) (by omega) qX e3
              simp only [b266, gu_idU]
              exact this
            · rw [if_neg c1, if_neg c2, if_pos (Or.inr (by omega))]
              exact b164
        · rw [if_neg z, show ∀ W : gp_V, sxV (sW vs 0) W = gV_1 (gc_e (sW vs 0)) from fun W => if_neg z]
          exact b169e T _ qX e3 z w1
      · rw [if_neg y38, gI_lit 42, ite_le _ _ _ _ (by decide) (by omega), ite_eq _ _ _ _ (by omega) (by decide), gI_lit 43, ite_eq _ _ _ _ (by omega) (by decide), gI_lit 44, ite_eq _ _ _ _ (by omega) (by decide)]
        by_cases z42 : 42 ≤ f
        · rw [if_pos z42]
          by_cases y42 : f = 42
          · have m1 := n42 y42
            have hm0 := g.2 0 (by omega)
            rw [Nat.add_zero] at hm0
            have ht := sp_tru_le' (sp_1_ok hm0.1)
            obtain ⟨T, e1, e2, e3⟩ := m_wantTruth (h := h) hm0 (by omega) hb (by decide)
            rw [bl_n] at e3
            rw [if_pos rfl] at e1
            have qX : mX mSt S T := e2.le fun _ _ w => mQ_st w
            have b230 : ∀ t : Bool, mF h S (f_M_choices_b230 (some 30) (gB t) (gv_ov h T)) (gV_1 (sx (sp_tru (sp_1 (vs 0))).1 (gc_b t))) := fun t => by
              unfold f_M_choices_b230
              simp only [b266]
              rw [gc_30, gu_idU]
              exact mF.ansT t qX e3 ht
            rw [if_pos y42, y42, ch_42, gc_30, e1, gk_ca_some, ite_B, o1, o0]
            by_cases y : (sp_tru (sp_1 (vs 0))).2 = true
            · rw [if_pos y, y]
              exact b230 false
            · rw [if_neg y, Bool.eq_false_iff.mpr y]
              exact b230 true
          · rw [if_neg y42]
            by_cases y43 : f = 43
            · rw [if_pos y43, y43, ch_43, gc_30, gu_idU, gI_lit 7, m_fail 0 7 hb (by decide), bl_n]
              exact mF.err (mX.I _ (mB_st ⟨rfl, rfl⟩)) (gu11 7) (by decide) (by decide)
            · have b263 : ∀ t : Bool, mF h S (f_M_choices_b263 (some 30) (gB t) (gv_ov h S)) (gV_1 (gc_b t)) := fun t => by
                unfold f_M_choices_b263
                simp only [b266]
                rw [gc_30, gu_idU]
                exact mF.ansT t (mX.refl _ _) hb (by decide)
              rw [if_neg y43, ch_44 f (by omega), o1, o0]
              by_cases y44 : f = 44
              · rw [if_pos y44, decide_eq_true y44]
                exact b263 true
              · rw [if_neg y44, decide_eq_false y44]
                exact b263 false
        · have f39 : f = 39 ∨ f = 40 ∨ f = 41 := by omega
          rw [if_neg z42, ch_39 f f39, gc_30, gu_idU]
          exact mo_logic g hb f39 hn8
    · have f36 : f = 36 ∨ f = 37 := by omega
      have m1 := n36 (by omega)
      have hm0 := g.2 0 (by omega)
      rw [Nat.add_zero] at hm0
      have hV5 : (vs 0).1 ≤ 5 := by
        rcases hm0.1.2.2.2.2 with q | ⟨q, q2, q3⟩
        · omega
        · have := (hm0.1.2.2.2.1 0 (by rw [q2, q3]; decide)).1
          omega
      have b106 : ∀ t : Bool, mF h S (f_M_choices_b106 (some 30) (gI a) (gB t) (gv_ov h S)) (if t = true then vs 1 else vs 0) := fun t => by
        unfold f_M_choices_b106 f_M_choices_b121
        simp only [b266]
        rw [ite_B, gc_30, gc_30, gu_idU, gu_idU]
        cases t
        · rw [if_neg (by decide), if_neg (by decide)]
          exact mF.copy hm0 (by omega) (mX.refl _ _) hb
        · rw [if_pos rfl, if_pos rfl, show gI a + (1 : Int32) = gI (a + 1) from gI_add _ 1]
          exact mF.copy (g.2 1 (by omega)) (by omega) (mX.refl _ _) hb
      have t1 := b106 true
      have t0 := b106 false
      rw [if_pos rfl] at t1
      rw [if_neg (by decide)] at t0
      unfold f_M_choices_b101 f_M_choices_b105
      rw [if_neg z38, ch_36 f f36, gr_30_4, ga_32 (by omega), hm0.2.1, gI_lit 4, ite_eq _ _ _ _ (by omega) (by decide), gI_lit 36, ite_eq _ _ _ _ (by omega) (by decide)]
      by_cases y4 : (vs 0).1 = 4
      · rw [if_pos y4]
        by_cases y36 : f = 36
        · rw [if_pos y36, if_pos ⟨y4, Or.inl y36⟩]
          exact t1
        · have hone : (vs 0).1 = ((vs 0).2.2.2 0).1 ∧ (vs 0).2.1 = 1 ∧ (vs 0).2.2.1 = 1 := by
            rcases hm0.1.2.2.2.2 with w | w
            · omega
            · exact w
          have hc0 := hm0.2.2.2.2 0 (by rw [hone.2.1, hone.2.2]; decide)
          have hok0 := hm0.1.2.2.2.1 0 (by rw [hone.2.1, hone.2.2]; decide)
          have emd : md ((vs 0).2.2.2 0) = FP.i2d (gI ((vs 0).2.2.2 0).2.1) := if_neg (by omega)
          have hcd := hok0.2.2.2.2.2.1 (by omega)
          have ek : (fd_k (FP.i2d (gI ((vs 0).2.2.2 0).2.1)) = fd_k (FP.i2d (gI 7))) = (((vs 0).2.2.2 0).2.1 = 7) := by
            have k1 := i2d_k (a := ((vs 0).2.2.2 0).2.1) (b := 7) (by omega) (by omega)
            have k2 := i2d_k (a := 7) (b := ((vs 0).2.2.2 0).2.1) (by omega) (by omega)
            exact propext ⟨fun q => by omega, fun q => by rw [q]⟩
          rw [Nat.add_zero] at hc0
          rw [if_neg y36, gr_30_8, gI_lit 16, gI_mul, ga_36 (by omega), hc0.2.1, emd, fd_7, fi_eq _ _ (fd_i2df _).n (fd_i2df _).n]
          simp only [ek]
          by_cases y7 : ((vs 0).2.2.2 0).2.1 = 7
          · rw [if_pos y7, if_pos ⟨y4, Or.inr y7⟩]
            exact t1
          · rw [if_neg y7, if_neg (fun w => w.2.elim y36 y7)]
            exact t0
      · rw [if_neg y4, if_neg (fun w => y4 w.1)]
        exact t0
theorem fd_typ : (0x4000000000000000 : UInt64) = FP.i2d (gI 2) ∧ (0x4010000000000000 : UInt64) = FP.i2d (gI 4) ∧ (0x4030000000000000 : UInt64) = FP.i2d (gI 16) ∧ (0x4050000000000000 : UInt64) = FP.i2d (gI 64) ∧ (0x3ff0000000000000 : UInt64) = FP.i2d (gI 1) := by decide +kernel
theorem mo_kindsOf (g : mG S a vs n) (hb : S.1 30 11 = gI 0) (h1 : 46 ≤ f) (h2 : f ≤ 55) (hn1 : 1 ≤ n) : mF h S (f_M_kindsOf (some 30) (gI f) (gI a) (gv_ov h S)) (sp_ch f vs n) := by
  have h16 := g.1
  have hm0 := g.2 0 (by omega)
  rw [Nat.add_zero] at hm0
  have hok := sp_1_ok hm0.1
  have hk4 := hok.1
  have he8 := sp_err_le hok
  have hV5 : (vs 0).1 ≤ 5 := by
    rcases hm0.1.2.2.2.2 with q | ⟨q, q2, q3⟩
    · omega
    · have := (hm0.1.2.2.2.1 0 (by rw [q2, q3]; decide)).1
      omega
  have o1 : (1 : Int32) = gB true := rfl
  have o0 : (0 : Int32) = gB false := rfl
  unfold f_M_kindsOf
  rw [gI_lit 54, ite_eq _ _ _ _ (by omega) (by decide), gI_lit 52, ite_eq _ _ _ _ (by omega) (by decide), gI_lit 53, ite_eq _ _ _ _ (by omega) (by decide)]
  by_cases z54 : f = 54
  · have b59 : ∀ (x : UInt64) (m : Nat), x = FP.i2d (gI m) → m = sp_typ (vs 0).1 → mF h S (f_M_kindsOf_b59 (some 30) x (gv_ov h S)) (gV_1 (gc_n (FP.i2d (gI (sp_typ (vs 0).1))))) := fun x m e1 e2 => by
      unfold f_M_kindsOf_b59
      rw [gc_30, gu_idU, e1, e2]
      exact mF.ansN (fd_i2df _) (mX.refl _ _) hb
    obtain ⟨t1, t2, t3, t4, t5⟩ := fd_typ
    rw [if_pos z54, z54, ch_54, gr_30_4, ga_32 (by omega), hm0.2.1, gI_lit 2, ite_le _ _ _ _ (by decide) (by omega), ite_eq _ _ _ _ (by omega) (by decide), gI_lit 3, ite_eq _ _ _ _ (by omega) (by decide), gI_lit 4, ite_eq _ _ _ _ (by omega) (by decide)]
    have hk : (vs 0).1 = 0 ∨ (vs 0).1 = 1 ∨ (vs 0).1 = 2 ∨ (vs 0).1 = 3 ∨ (vs 0).1 = 4 ∨ (vs 0).1 = 5 := by omega
    rcases hk with k | k | k | k | k | k
    · rw [if_neg (by omega)]
      exact b59 _ _ t5 (by rw [k]; rfl)
    · rw [if_neg (by omega)]
      exact b59 _ _ t5 (by rw [k]; rfl)
    · rw [if_pos (by omega), if_pos k]
      exact b59 _ _ t1 (by rw [k]; rfl)
    · rw [if_pos (by omega), if_neg (by omega), if_pos k]
      exact b59 _ _ t2 (by rw [k]; rfl)
    · rw [if_pos (by omega), if_neg (by omega), if_neg (by omega), if_pos k]
      exact b59 _ _ t3 (by rw [k]; rfl)
    · rw [if_pos (by omega), if_neg (by omega), if_neg (by omega), if_neg (by omega)]
      exact b59 _ _ t4 (by rw [k]; rfl)
  · have b158 : ∀ h : gk_H, f_M_kindsOf_b158 h = some ((), h) := fun _ => rfl
    rw [if_neg z54]
    have b75 : f = 52 ∨ f = 53 → mF h S (f_M_kindsOf_b75 (some 30) (gI f) (gI a) (gv_ov h S)) (sp_ch f vs n) := by
      intro f52
      obtain ⟨T, e1, e2, e3⟩ := m_wantAny (h := h) hm0 (by omega) hb (by decide)
      rw [bl_n] at e3
      have qX : mX mSt S T := e2.le fun _ _ w => mQ_st w
      unfold f_M_kindsOf_b75 f_M_kindsOf_b116 f_M_kindsOf_b126
      simp only [b158]
      rw [gc_30, e1, gk_ca_some, gg_30_11, e3, itl0 _ he8, gI_lit 52, ite_eq _ _ _ _ (by omega) (by decide)]
      by_cases z : sp_err (sp_1 (vs 0)) = 0
      · rw [z] at e3
        obtain ⟨p1, p4⟩ := one_of hm0.1 z
        have hmT := hm0.st qX (by omega)
        obtain ⟨c1, c2⟩ := hmT.c0 p1
        have kd : ∀ m : Nat, m < 1000 → (gI (sp_1 (vs 0)).1 = gI m) = ((sp_1 (vs 0)).1 = m) := fun m hm => gI_eq _ m (by omega) (by omega)
        have k1 := kd 1 (by decide)
        have k2 := kd 2 (by decide)
        have k3 := kd 3 (by decide)
        rw [if_pos z, gr_30_7, ga_35 (by omega), c1.1]
        by_cases z52 : f = 52
        · rw [if_pos z52, z52, ch_52, show ∀ c : gp_C, sx (sp_err (sp_1 (vs 0))) c = c from fun c => if_pos z, gr_30_7, ga_35 (by omega), c1.1]
          have num : ((sp_1 (vs 0)).1 = 1 ∨ (sp_1 (vs 0)).1 = 3) → mF h S (((gk_get (gv_ov h T) (some 30) 7 8).bind gk_asR).bind fun x1 => ((gk_ald (gv_ov h T) x1 6 (gI (16 * a))).bind gk_asD).bind fun x2 => gk_cv (gv_ov h T) (some 30) 7 (f_M_answerNumber (some 30) x2 (gv_ov h T)) fun _ h1 => some ((), h1)) (gV_1 (gc_n (if (sp_1 (vs 0)).1 = 3 then FP.i2d (gI (sp_1 (vs 0)).2.1) else (sp_1 (vs 0)).2.2.1))) := fun y => by
            have emd : md (sp_1 (vs 0)) = if (sp_1 (vs 0)).1 = 3 then FP.i2d (gI (sp_1 (vs 0)).2.1) else (sp_1 (vs 0)).2.2.1 := by
              unfold md
              rcases y with y | y
              · rw [if_pos y, if_neg (by omega)]
              · rw [if_neg (by omega), if_pos y]
            rw [gr_30_8, ga_36 (by omega), c1.2.1, gc_30, gu_idU, emd]
            refine mF.ansN ?_ qX e3
            split
            · exact fd_i2df _
            · exact hok.2.1
          by_cases y1 : (sp_1 (vs 0)).1 = 1
          · rw [if_pos (show gI (sp_1 (vs 0)).1 = (1 : Int32) from k1.mpr y1)]
            exact num (Or.inl y1)
          · rw [if_neg (show ¬ gI (sp_1 (vs 0)).1 = (1 : Int32) from fun w => y1 (k1.mp w))]
            by_cases y3 : (sp_1 (vs 0)).1 = 3
            · rw [if_pos (show gI (sp_1 (vs 0)).1 = (3 : Int32) from k3.mpr y3)]
              exact num (Or.inr y3)
            · rw [if_neg (show ¬ gI (sp_1 (vs 0)).1 = (3 : Int32) from fun w => y3 (k3.mp w)), if_neg y3, hok.2.2.2.1 y1, gc_30, gu_idU]
              exact mF.ansN fd_f0 qX e3
        · have y53 : f = 53 := by omega
          rw [if_neg z52, y53, ch_53, show ∀ c : gp_C, sx (sp_err (sp_1 (vs 0))) c = c from fun c => if_pos z, gr_30_7, ga_35 (by omega), c1.1]
          by_cases y2 : (sp_1 (vs 0)).1 = 2
          · obtain ⟨T2, d1, d2, d3, d4⟩ := m_ansC (h := h) c1 c2 (by omega) e3
            have ex : sp_1 (vs 0) = gc_t (sp_1 (vs 0)).2.2.2 := by
              have a1 := hok.2.2.2.1 (by omega)
              have a2 := hok.2.2.2.2.2.2.1 (by omega) (by omega)
              refine Prod.ext y2 (Prod.ext a2 (Prod.ext a1 rfl))
            rw [if_pos (show gI (sp_1 (vs 0)).1 = (2 : Int32) from k2.mpr y2), gc_30, gu_idU, d1, ← ex]
            exact mF.val (qX.trans d2) d4 d3
          · have el := hok.2.2.2.2.2.2.2.1 y2
            obtain ⟨T2, d1, d2, d3⟩ := m_setV (h := h) (S := T) 16 (by decide) (gp_okt (l := []) (by decide) (fun c hc => absurd hc List.not_mem_nil)) rfl 0 fd_0_n (by decide +kernel)
            have d1' : f_M_setSingle (some 30) (16 : Int32) (2 : Int32) 0 (gv_ov h T) = _ := d1
            rw [if_neg (show ¬ gI (sp_1 (vs 0)).1 = (2 : Int32) from fun w => y2 (k2.mp w)), gc_30, gu_idU, d1', el]
            exact mF.val (qX.trans (d2.le fun _ _ w => mSet_st w)) (by
              rw [d2.i (fun w => by unfold mSet at w; omega)]
              exact e3) d3
      · rw [if_neg z]
        have ee : sp_ch f vs n = gV_1 (gc_e (sp_err (sp_1 (vs 0)))) := by
          rcases f52 with rfl | rfl
          · rw [ch_52]
            congr 1
            exact if_neg z
          · rw [ch_53]
            congr 1
            exact if_neg z
        rw [ee]
        exact mF.err qX e3 z he8
    by_cases z52 : f = 52
    · rw [if_pos z52]
      exact b75 (Or.inl z52)
    · rw [if_neg z52]
      by_cases z53 : f = 53
      · rw [if_pos z53]
        exact b75 (Or.inr z53)
      · rw [if_neg z53, gr_30_5, ga_33 (by omega), gr_30_6, ga_34 (by omega), hm0.2.2.1, hm0.2.2.2.1, gI_mul, gI_lit 1, ite_eq _ _ _ _ (by have := hm0.1.2.2.1; omega) (by decide)]
        have b229 : ∀ e : Nat, e = sp_err (sp_1 (vs 0)) → mF h S (f_M_kindsOf_b229 (some 30) (gI f) (gI (sp_1 (vs 0)).1) (gI e) (gv_ov h S)) (sp_ch f vs n) := by
          intro e hee
          have he : e ≤ 8 := by rw [hee]; exact he8
          have e4 : (e = 0) = ¬ (sp_1 (vs 0)).1 = 4 := by
            rw [hee]
            unfold sp_err
            by_cases y : (sp_1 (vs 0)).1 = 4
            · have := hok.2.2.2.2.2.1 y
              rw [if_pos y]
              exact propext ⟨fun w => by omega, fun w => absurd y w⟩
            · rw [if_neg y]
              exact propext ⟨fun _ => y, fun _ => rfl⟩
          unfold f_M_kindsOf_b229
          rw [gI_lit 55, ite_eq _ _ _ _ (by omega) (by decide), ite0 e he]
          simp only [e4]
          by_cases z55 : f = 55
          · rw [if_pos z55, z55, ch_55]
            unfold f_M_kindsOf_b248
            by_cases y : (sp_1 (vs 0)).1 = 4
            · rw [if_neg (fun w => w y), if_pos y, gc_30, gu_idU, hee, show sp_err (sp_1 (vs 0)) = (sp_1 (vs 0)).2.1 from if_pos y]
              exact mF.ansN (fd_i2df _) (mX.refl _ _) hb
            · rw [if_pos y, if_neg y, gc_30, gI_lit 7, m_fail 0 7 hb (by decide), bl_n, gk_ca_some, gc_30, gu_idU]
              exact mF.ansE (fd_i2df _).n (mX.I _ (mB_st ⟨rfl, rfl⟩)) (gu11 7) (by decide) (by decide)
          · have b368 : ∀ t : Bool, t = sp_is f (sp_1 (vs 0)) → mF h S (f_M_kindsOf_b368 (some 30) (gB t) (gv_ov h S)) (gV_1 (gc_b (sp_is f (sp_1 (vs 0))))) := fun t ht => by
              unfold f_M_kindsOf_b368
              rw [gc_30, gu_idU, ← ht]
              exact mF.ansT t (mX.refl _ _) hb (by decide)
            have two : ∀ (m : Nat), m < 1000 → sp_is f (sp_1 (vs 0)) = decide ((sp_1 (vs 0)).1 = m) → mF h S (if gI (sp_1 (vs 0)).1 = gI m then f_M_kindsOf_b368 (some 30) (1 : Int32) (gv_ov h S) else f_M_kindsOf_b368 (some 30) (0 : Int32) (gv_ov h S)) (gV_1 (gc_b (sp_is f (sp_1 (vs 0))))) := fun m hm hs => by
              rw [ite_eq _ _ _ _ (by omega) (by omega), o1, o0]
              by_cases y : (sp_1 (vs 0)).1 = m
              · rw [if_pos y]
                exact b368 true (by rw [hs, decide_eq_true y])
              · rw [if_neg y]
                exact b368 false (by rw [hs, decide_eq_false y])
            rw [if_neg z55, ch_is f (by omega), gI_lit 46, ite_eq _ _ _ _ (by omega) (by decide), gI_lit 47, ite_eq _ _ _ _ (by omega) (by decide), gI_lit 48, ite_eq _ _ _ _ (by omega) (by decide), gI_lit 49, ite_eq _ _ _ _ (by omega) (by decide), gI_lit 50, ite_eq _ _ _ _ (by omega) (by decide)]
            have hfs : f = 46 ∨ f = 47 ∨ f = 48 ∨ f = 49 ∨ f = 50 ∨ f = 51 := by omega
            rcases hfs with rfl | rfl | rfl | rfl | rfl | rfl
            · rw [if_pos rfl]
              exact two 0 (by decide) rfl
            · rw [if_neg (by decide), if_pos rfl]
              exact two 1 (by decide) rfl
            · rw [if_neg (by decide), if_neg (by decide), if_pos rfl]
              exact two 2 (by decide) rfl
            · rw [if_neg (by decide), if_neg (by decide), if_neg (by decide), if_pos rfl]
              exact two 3 (by decide) rfl
            · rw [if_neg (by decide), if_neg (by decide), if_neg (by decide), if_neg (by decide), if_pos rfl]
              exact two 4 (by decide) rfl
            · rw [if_neg (by decide), if_neg (by decide), if_neg (by decide), if_neg (by decide), if_neg (by decide), gI_lit 7, ite_eq _ _ _ _ (by omega) (by decide), o1, o0]
              have es : sp_is 51 (sp_1 (vs 0)) = decide ((sp_1 (vs 0)).1 = 4 ∧ (sp_1 (vs 0)).2.1 = 7) := rfl
              have e7 : (e = 7) ↔ ((sp_1 (vs 0)).1 = 4 ∧ (sp_1 (vs 0)).2.1 = 7) := by
                rw [hee]
                unfold sp_err
                by_cases y : (sp_1 (vs 0)).1 = 4
                · rw [if_pos y]
                  exact ⟨fun w => ⟨y, w⟩, fun w => w.2⟩
                · rw [if_neg y]
                  exact ⟨fun w => absurd w (by decide), fun w => absurd w.1 y⟩
              by_cases y : e = 7
              · rw [if_pos y]
                exact b368 true (by rw [es, decide_eq_true (e7.mp y)])
              · rw [if_neg y]
                exact b368 false (by rw [es, decide_eq_false (fun w => y (e7.mpr w))])
        unfold f_M_kindsOf_b181 f_M_kindsOf_b199
        by_cases y1 : (vs 0).2.1 * (vs 0).2.2.1 = 1
        · obtain ⟨c1, c2⟩ := hm0.c0 y1
          rw [if_pos y1, if_neg (show ¬ gI 1 = (0 : Int32) by decide), gr_30_7, gI_lit 16, gI_mul, ga_35 (by omega), c1.1, gI_lit 4, ite_eq _ _ _ _ (by omega) (by decide)]
          by_cases y4 : (sp_1 (vs 0)).1 = 4
          · have emd : md (sp_1 (vs 0)) = FP.i2d (gI (sp_1 (vs 0)).2.1) := if_neg (by omega)
            rw [if_pos y4, if_neg (show ¬ gI 1 = (0 : Int32) by decide), gr_30_8, ga_36 (by omega), c1.2.1, emd, d2i_i2d']
            exact b229 _ (by unfold sp_err; rw [if_pos y4])
          · rw [if_neg y4]
            exact b229 0 (by unfold sp_err; rw [if_neg y4])
        · have e3 : sp_1 (vs 0) = gc_e 3 := if_neg y1
          have := b229 3 (by rw [e3]; rfl)
          rw [e3] at this
          rw [if_neg y1, if_pos (show (0 : Int32) = 0 from rfl), if_pos (show (4 : Int32) = 4 from rfl), if_pos (show (0 : Int32) = 0 from rfl)]
          exact this
end MKI
