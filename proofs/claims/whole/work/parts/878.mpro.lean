/-! THE PURE PART: the reference's 15; its conditions, all -/
section MPR
variable {h : gk_H} {S S0 S1 : gv_S} {a n f : Nat} {vs : Nat → gp_V} {V : gp_V}
theorem mpr_17 (b7 : Option Nat → Int32 → Int32 → Int32 → gk_H → Option (Unit × gk_H)) (A N : Int32) {v : Nat} (hv : v < 16) {f0 : Nat} (hf0 : f0 ≤ 8) : ∀ (r k fu : Nat) (T : gv_S), k + r = cellsN V → r < fu → mv T v V → T.1 30 11 = gI (bl f0 (sc_err V.2.2.2 k)) → ∃ T', f_M_products_b17 b7 fu (some 30) A N (gI v) (gI k) (gv_ov h T) = b7 (some 30) A N (gI (v + 1)) (gv_ov h T') ∧ mX mB T T' ∧ T'.1 30 11 = gI (bl f0 (sc_err V.2.2.2 (cellsN V))) := by
  intro r
  induction r with
  | zero =>
    intro k fu T hk hfu hm hb
    obtain ⟨fu, rfl⟩ : ∃ g, fu = g + 1 := ⟨fu - 1, by omega⟩
    have h16 := hm.1.2.2.1
    have ek : (V.2.1 * V.2.2.1) ≤ k := by
      have : cellsN V = V.2.1 * V.2.2.1 := rfl
      omega
    rw [f_M_products_b17]
    dsimp only
    rw [gr_30_5, ga_33 (by omega), gr_30_6, ga_34 (by omega), hm.2.2.1, hm.2.2.2.1, gI_mul, ite_le _ _ _ _ (by omega) (by have : cellsN V = V.2.1 * V.2.2.1 := rfl; omega), if_pos ek, gk_let_eq, show gI v + (1 : Int32) = gI (v + 1) from gI_add _ 1]
    exact ⟨T, rfl, mX.refl _ _, by rw [show cellsN V = k by omega]; exact hb⟩
  | succ r ih =>
    intro k fu T hk hfu hm hb
    obtain ⟨fu, rfl⟩ : ∃ g, fu = g + 1 := ⟨fu - 1, by omega⟩
    have h16 := hm.1.2.2.1
    have ec : cellsN V = V.2.1 * V.2.2.1 := rfl
    have hcell := hm.2.2.2.2 k (by omega)
    have hok := hm.1.2.2.2.1 k (by omega)
    have hk4 := hok.1
    have q4 : (gI (V.2.2.2 k).1 = (4 : Int32)) = ((V.2.2.2 k).1 = 4) := gI_eq _ 4 (by omega) (by decide)
    have hE : bl f0 (sc_err V.2.2.2 k) ≤ 8 := bl_le hf0 (sc_err_le k fun j hj => hm.1.2.2.2.1 j (by omega))
    have eE : sc_err V.2.2.2 (k + 1) = bl (sc_err V.2.2.2 k) (sp_err (V.2.2.2 k)) := rfl
    have nx : ∀ T1, mX mB T T1 → T1.1 30 11 = gI (bl f0 (sc_err V.2.2.2 (k + 1))) → ∃ T', f_M_products_b68 b7 (f_M_products_b17 b7 fu) (some 30) A N (gI v) (gI k) (gv_ov h T1) = b7 (some 30) A N (gI (v + 1)) (gv_ov h T') ∧ mX mB T T' ∧ T'.1 30 11 = gI (bl f0 (sc_err V.2.2.2 (cellsN V))) := fun T1 q hb1 => by
      obtain ⟨T', e1, e2, e3⟩ := ih (k + 1) fu T1 (by omega) (by omega) (hm.st (q.le fun _ _ w => mB_st w) hv) hb1
      unfold f_M_products_b68
      rw [gk_let_eq, show gI k + (1 : Int32) = gI (k + 1) from gI_add _ 1]
      exact ⟨T', e1, q.trans e2, e3⟩
    rw [f_M_products_b17]
    dsimp only
    rw [gr_30_5, ga_33 (by omega), gr_30_6, ga_34 (by omega), hm.2.2.1, hm.2.2.2.1, gI_mul, ite_le _ _ _ _ (by omega) (by omega), if_neg (by omega), gr_30_7, gI_lit 16, gI_mul, gI_add, ga_35 (by omega), hcell.1]
    by_cases z : (V.2.2.2 k).1 = 4
    · have emd : md (V.2.2.2 k) = FP.i2d (gI (V.2.2.2 k).2.1) := if_neg (by omega)
      rw [if_pos (show gI (V.2.2.2 k).1 = (4 : Int32) from q4.mpr z), gr_30_8, ga_36 (by omega), hcell.2.1, emd, d2i_i2d', gc_30, m_fail _ _ hb hE, gk_ca_some]
      refine nx _ (mX.I _ ⟨rfl, rfl⟩) ?_
      rw [gu11, eE, ← bl_bl]
      unfold sp_err
      rw [if_pos z]
    · rw [if_neg (show ¬ gI (V.2.2.2 k).1 = (4 : Int32) from fun w => z (q4.mp w))]
      refine nx T (mX.refl _ _) ?_
      rw [hb, eE]
      unfold sp_err
      rw [if_neg z, bl_0]
theorem mpr_7 : ∀ (r k fu : Nat) (T : gv_S), k + r = n → r < fu → mG T a vs n → T.1 30 11 = gI (sb_err vs k) → sb_err vs k ≤ 8 → ∃ T', f_M_products_b7 fu (some 30) (gI a) (gI n) (gI (a + k)) (gv_ov h T) = f_M_products_b84 gk_F (some 30) (gI a) (gI n) (gI (a + 1)) (gv_ov h T') ∧ mX mB T T' ∧ T'.1 30 11 = gI (sb_err vs n) ∧ sb_err vs n ≤ 8 := by
  intro r
  induction r with
  | zero =>
    intro k fu T hk hfu hm hb hE
    obtain ⟨fu, rfl⟩ : ∃ g, fu = g + 1 := ⟨fu - 1, by omega⟩
    have h16 := hm.1
    rw [f_M_products_b7]
    dsimp only
    rw [gI_add, ite_le _ _ _ _ (by omega) (by omega), if_pos (by omega), gk_let_eq, show gI a + (1 : Int32) = gI (a + 1) from gI_add _ 1]
    have : k = n := by omega
    subst this
    exact ⟨T, rfl, mX.refl _ _, hb, hE⟩
  | succ r ih =>
    intro k fu T hk hfu hm hb hE
    obtain ⟨fu, rfl⟩ : ∃ g, fu = g + 1 := ⟨fu - 1, by omega⟩
    have h16 := hm.1
    have hmk := hm.2 k (by omega)
    have ecell : cellsN (vs k) ≤ 16 := hmk.1.2.2.1
    obtain ⟨T1, e1, e2, e3⟩ := mpr_17 (h := h) (V := vs k) (f_M_products_b7 fu) (gI a) (gI n) (v := a + k) (by omega) hE (cellsN (vs k)) 0 gk_F T (Nat.zero_add _) (by unfold gk_F; omega) hmk (by
      rw [hb]
      show gI _ = gI (bl _ 0)
      rw [bl_0])
    have e1' : f_M_products_b17 (f_M_products_b7 fu) gk_F (some 30) (gI a) (gI n) (gI (a + k)) (0 : Int32) (gv_ov h T) = _ := e1
    have hE1 : sb_err vs (k + 1) ≤ 8 := bl_le hE (sc_err_le _ fun j hj => hmk.1.2.2.2.1 j hj)
    obtain ⟨T2, p1, p2, p3, p4⟩ := ih (k + 1) fu T1 (by omega) (by omega) (hm.st (e2.le fun _ _ w => mB_st w)) e3 hE1
    rw [f_M_products_b7]
    dsimp only
    rw [gI_add, ite_le _ _ _ _ (by omega) (by omega), if_neg (by omega), e1']
    exact ⟨T2, p1, e2.trans p2, p3, p4⟩
theorem mv.sh {T : gv_S} {v : Nat} (hm : mv T v V) : V.2.1 ≤ 16 ∧ V.2.2.1 ≤ 16 := by
  have v1 := hm.1.1
  have v2 := hm.1.2.1
  have v3 := hm.1.2.2.1
  exact ⟨Nat.le_trans (Nat.le_mul_of_pos_right _ v2) v3, Nat.le_trans (Nat.le_mul_of_pos_left _ v1) v3⟩
theorem mpr_84 {E : Nat} (hE : E ≤ 8) (hn1 : 1 ≤ n) : ∀ (r k fu : Nat) (T : gv_S), k + r = n → r < fu → mG T a vs n → T.1 30 11 = gI (bl E (if sb_same vs k = true then 0 else 3)) → ∃ T', f_M_products_b84 fu (some 30) (gI a) (gI n) (gI (a + k)) (gv_ov h T) = f_M_products_b137 gk_F (some 30) (gI a) (gI n) 0 (0 : Int32) (gv_ov h T') ∧ mX mB T T' ∧ T'.1 30 11 = gI (bl E (if sb_same vs n = true then 0 else 3)) := by
  intro r
  induction r with
  | zero =>
    intro k fu T hk hfu hm hb
    obtain ⟨fu, rfl⟩ : ∃ g, fu = g + 1 := ⟨fu - 1, by omega⟩
    have h16 := hm.1
    rw [f_M_products_b84]
    dsimp only
    rw [gI_add, ite_le _ _ _ _ (by omega) (by omega), if_pos (by omega)]
    have : k = n := by omega
    subst this
    exact ⟨T, rfl, mX.refl _ _, hb⟩
  | succ r ih =>
    intro k fu T hk hfu hm hb
    obtain ⟨fu, rfl⟩ : ∃ g, fu = g + 1 := ⟨fu - 1, by omega⟩
    have h16 := hm.1
    have hmk := hm.2 k (by omega)
    have hm0 := hm.2 0 (by omega)
    rw [Nat.add_zero] at hm0
    obtain ⟨l1, l2⟩ := hmk.sh
    obtain ⟨l3, l4⟩ := hm0.sh
    have hB : bl E (if sb_same vs k = true then 0 else 3) ≤ 8 := bl_le hE (by split <;> decide)
    have es : sb_same vs (k + 1) = (sb_same vs k && sameSh (vs 0) (vs k)) := rfl
    have b126 : ∀ T1, mX mB T T1 → T1.1 30 11 = gI (bl E (if sb_same vs (k + 1) = true then 0 else 3)) → ∃ T', f_M_products_b126 (f_M_products_b84 fu) (some 30) (gI a) (gI n) (gI (a + k)) (gv_ov h T1) = f_M_products_b137 gk_F (some 30) (gI a) (gI n) 0 (0 : Int32) (gv_ov h T') ∧ mX mB T T' ∧ T'.1 30 11 = gI (bl E (if sb_same vs n = true then 0 else 3)) := fun T1 q hb1 => by
      obtain ⟨T', e1, e2, e3⟩ := ih (k + 1) fu T1 (by omega) (by omega) (hm.st (q.le fun _ _ w => mB_st w)) hb1
      unfold f_M_products_b126
      rw [gk_let_eq, gI_pl]
      exact ⟨T', e1, q.trans e2, e3⟩
    have b121 : sameSh (vs 0) (vs k) = false → ∃ T', f_M_products_b121 (f_M_products_b84 fu) (some 30) (gI a) (gI n) (gI (a + k)) (gv_ov h T) = f_M_products_b137 gk_F (some 30) (gI a) (gI n) 0 (0 : Int32) (gv_ov h T') ∧ mX mB T T' ∧ T'.1 30 11 = gI (bl E (if sb_same vs n = true then 0 else 3)) := fun hs => by
      unfold f_M_products_b121
      rw [gc_30, gI_lit 3, m_fail _ 3 hb hB, gk_ca_some]
      refine b126 _ (mX.I _ ⟨rfl, rfl⟩) ?_
      rw [gu11, es, hs, Bool.and_false, bl_bl]
      congr 2
      by_cases y : sb_same vs k = true
      · rw [if_pos y, bl_n]
        rfl
      · rw [if_neg y]
        rfl
    rw [f_M_products_b84]
    dsimp only
    rw [gI_add, ite_le _ _ _ _ (by omega) (by omega), if_neg (by omega), gr_30_5, ga_33 (by omega), gr_30_5, ga_33 (by omega), hmk.2.2.1, hm0.2.2.1, ite_eq _ _ _ _ (by omega) (by omega)]
    by_cases y1 : (vs k).2.1 = (vs 0).2.1
    · rw [if_pos y1, gr_30_6, ga_34 (by omega), gr_30_6, ga_34 (by omega), hmk.2.2.2.1, hm0.2.2.2.1, ite_eq _ _ _ _ (by omega) (by omega)]
      by_cases y2 : (vs k).2.2.1 = (vs 0).2.2.1
      · have hs : sameSh (vs 0) (vs k) = true := decide_eq_true ⟨y1.symm, y2.symm⟩
        rw [if_pos y2]
        refine b126 T (mX.refl _ _) ?_
        rw [es, hs, Bool.and_true]
        exact hb
      · rw [if_neg y2]
        exact b121 (decide_eq_false fun w => y2 w.2.symm)
    · rw [if_neg y1]
      exact b121 (decide_eq_false fun w => y1 w.1.symm)
/-- one place's product -/
theorem mpr_168 (g : Option Nat → Int32 → Int32 → UInt64 → Int32 → gk_H → Option (Unit × gk_H)) {p : Nat} (hG : mG S a vs n) (hp : ∀ k, k < n → p < cellsN (vs k)) (hb : S.1 30 11 = gI 0) (sum : UInt64) : ∀ (r k fu : Nat) (x : UInt64), k + r = n → r + 1 < fu → fd_f x → fd_n (foN FP.dmul (fun k => ((vs k).2.2.2 p).2.2.1) r k x) ∧ ((fin (foN FP.dmul (fun k => ((vs k).2.2.2 p).2.2.1) r k x) ∧ f_M_products_b168 g fu (some 30) (gI a) (gI n) sum (gI p) x (gI (a + k)) (gv_ov h S) = f_M_products_b232 g (some 30) (gI a) (gI n) sum (gI p) (foN FP.dmul (fun k => ((vs k).2.2.2 p).2.2.1) r k x) (gv_ov h S)) ∨ (¬ fin (foN FP.dmul (fun k => ((vs k).2.2.2 p).2.2.1) r k x) ∧ ∃ v T, f_M_products_b168 g fu (some 30) (gI a) (gI n) sum (gI p) x (gI (a + k)) (gv_ov h S) = f_M_products_b232 g (some 30) (gI a) (gI n) sum (gI p) v (gv_ov h T) ∧ mX mB S T ∧ T.1 30 11 = gI 6)) := by
  have h16 := hG.1
  intro r
  induction r with
  | zero =>
    intro k fu x hk hfu hx
    obtain ⟨fu, rfl⟩ : ∃ g, fu = g + 1 := ⟨fu - 1, by omega⟩
    rw [f_M_products_b168]
    dsimp only
    rw [gI_add, ite_le _ _ _ _ (by omega) (by omega), if_pos (by omega)]
    exact ⟨hx.n, Or.inl ⟨(fin_f hx.n).mpr hx, rfl⟩⟩
  | succ r ih =>
    intro k fu x hk hfu hx
    obtain ⟨fu, rfl⟩ : ∃ g, fu = g + 1 := ⟨fu - 1, by omega⟩
    have hmk := hG.2 k (by omega)
    have hpk := hp k (by omega)
    have hc16 : cellsN (vs k) ≤ 16 := hmk.1.2.2.1
    have hcell := hmk.2.2.2.2 p hpk
    have hok := hmk.1.2.2.2.1 p hpk
    have hk4 := hok.1
    have q1 : (gI ((vs k).2.2.2 p).1 = (1 : Int32)) = (((vs k).2.2.2 p).1 = 1) := gI_eq _ 1 (by omega) (by decide)
    have hxf := (fin_f hx.n).mpr hx
    have hmul := fd_mul_n hx hok.2.1
    have es : foN FP.dmul (fun k => ((vs k).2.2.2 p).2.2.1) (r + 1) k x = foN FP.dmul (fun k => ((vs k).2.2.2 p).2.2.1) r (k + 1) (FP.dmul x ((vs k).2.2.2 p).2.2.1) := if_pos hxf
    have b220 : fd_n (foN FP.dmul (fun k => ((vs k).2.2.2 p).2.2.1) (r + 1) k x) ∧ ((fin (foN FP.dmul (fun k => ((vs k).2.2.2 p).2.2.1) (r + 1) k x) ∧ f_M_products_b220 g (f_M_products_b168 g fu) (some 30) (gI a) (gI n) sum (gI p) (gI (a + k)) (some 30) x ((vs k).2.2.2 p).2.2.1 (gv_ov h S) = f_M_products_b232 g (some 30) (gI a) (gI n) sum (gI p) (foN FP.dmul (fun k => ((vs k).2.2.2 p).2.2.1) (r + 1) k x) (gv_ov h S)) ∨ (¬ fin (foN FP.dmul (fun k => ((vs k).2.2.2 p).2.2.1) (r + 1) k x) ∧ ∃ v T, f_M_products_b220 g (f_M_products_b168 g fu) (some 30) (gI a) (gI n) sum (gI p) (gI (a + k)) (some 30) x ((vs k).2.2.2 p).2.2.1 (gv_ov h S) = f_M_products_b232 g (some 30) (gI a) (gI n) sum (gI p) v (gv_ov h T) ∧ mX mB S T ∧ T.1 30 11 = gI 6)) := by
      unfold f_M_products_b220
      rw [es, fd_dop hmul, gc_30]
      by_cases z : fin (FP.dmul x ((vs k).2.2.2 p).2.2.1)
      · have := ih (k + 1) fu _ (by omega) (by omega) ((fin_f hmul).mp z)
        rw [m_stepF hmul z, gk_ca_some, gk_let_eq, gI_pl]
        exact this
      · have est : foN FP.dmul (fun k => ((vs k).2.2.2 p).2.2.1) r (k + 1) (FP.dmul x ((vs k).2.2.2 p).2.2.1) = FP.dmul x ((vs k).2.2.2 p).2.2.1 := by
          cases r with
          | zero => rfl
          | succ r => exact if_neg z
        rw [m_stepI hmul z hb, gk_ca_some, gk_let_eq, gI_pl, est]
        refine ⟨hmul, Or.inr ⟨z, 0, gv_uI S 30 11 (gI 6), ?_, mX.I _ ⟨rfl, rfl⟩, gu11 6⟩⟩
        obtain ⟨fu, rfl⟩ : ∃ g, fu = g + 1 := ⟨fu - 1, by omega⟩
        rw [f_M_products_b168]
        dsimp only
        rw [gI_add, ite_le _ _ _ _ (by omega) (by omega), gg_30_11, gu11, ite0 6 (by decide), if_neg (show ¬ (6 = 0) by decide), ite_self]
    rw [f_M_products_b168]
    dsimp only
    rw [gI_add, ite_le _ _ _ _ (by omega) (by omega), if_neg (by omega), gg_30_11, hb, ite0 0 (by decide), if_pos rfl, gr_30_7, gI_lit 16, gI_mul, gI_add, ga_35 (by omega), hcell.1]
    by_cases z : ((vs k).2.2.2 p).1 = 1
    · have emd : md ((vs k).2.2.2 p) = ((vs k).2.2.2 p).2.2.1 := if_pos z
      rw [if_pos (show gI ((vs k).2.2.2 p).1 = (1 : Int32) from q1.mpr z), gr_30_8, ga_36 (by omega), hcell.2.1, emd]
      exact b220
    · have e0 : ((vs k).2.2.2 p).2.2.1 = 0 := hok.2.2.2.1 z
      rw [if_neg (show ¬ gI ((vs k).2.2.2 p).1 = (1 : Int32) from fun w => z (q1.mp w))]
      rw [e0] at b220
      exact b220
theorem mpr_254 {v : UInt64} {c : gp_C} (q : mX mSt S0 S) (hv : mV c v S) (hc : isR c) : mF h S0 (f_M_products_b254 (some 30) v (gv_ov h S)) (gV_1 c) := by
  unfold f_M_products_b254
  rw [gc_30, gu_idU]
  exact mF.ans hv q hc
/-- what has failed is answered -/
theorem mpr_137e {E : Nat} (q : mX mSt S0 S) (hG : mG S a vs n) (hn1 : 1 ≤ n) (hb : S.1 30 11 = gI E) (h0 : E ≠ 0) (h8 : E ≤ 8) {v : UInt64} (hv : fd_n v) (fu p : Nat) (hp : p ≤ 17) : mF h S0 (f_M_products_b137 (fu + 1) (some 30) (gI a) (gI n) v (gI p) (gv_ov h S)) (gV_1 (gc_e E)) := by
  have h16 := hG.1
  have hm0 := hG.2 0 (by omega)
  rw [Nat.add_zero] at hm0
  have hc16 := hm0.1.2.2.1
  rw [f_M_products_b137]
  dsimp only
  rw [gr_30_5, ga_33 (by omega), gr_30_6, ga_34 (by omega), hm0.2.2.1, hm0.2.2.2.1, gI_mul, ite_le _ _ _ _ (by omega) (by omega), gg_30_11, hb, ite0 E h8, if_neg h0, ite_self]
  exact mpr_254 q (mp_err rfl (by omega) h8 hv hb) (isR.e (by omega) h8)
theorem mpr_137 (hn1 : 1 ≤ n) (hsame : sb_same vs n = true) : ∀ (r k fu : Nat) (s : UInt64) (T : gv_S), k + r = cellsN (vs 0) → r + 1 < fu → fd_f s → mX mSt S0 T → mG T a vs n → T.1 30 11 = gI 0 → mF h S0 (f_M_products_b137 fu (some 30) (gI a) (gI n) s (gI k) (gv_ov h T)) (gV_1 (sp_sop (sp_pat vs n) r k s)) := by
  intro r
  induction r with
  | zero =>
    intro k fu s T hk hfu hs q hG hb
    obtain ⟨fu, rfl⟩ : ∃ g, fu = g + 1 := ⟨fu - 1, by omega⟩
    have h16 := hG.1
    have hm0 := hG.2 0 (by omega)
    rw [Nat.add_zero] at hm0
    have hc16 := hm0.1.2.2.1
    have ec : cellsN (vs 0) = (vs 0).2.1 * (vs 0).2.2.1 := rfl
    rw [f_M_products_b137]
    dsimp only
    rw [gr_30_5, ga_33 (by omega), gr_30_6, ga_34 (by omega), hm0.2.2.1, hm0.2.2.2.1, gI_mul, ite_le _ _ _ _ (by omega) (by omega), if_pos (by omega)]
    have e : sp_sop (sp_pat vs n) 0 k s = gc_n s := gc_num_f ((fin_f hs.n).mpr hs)
    rw [e]
    exact mpr_254 q ⟨hb, hs.n, fun _ => ⟨rfl, hs⟩⟩ (isR.n _)
  | succ r ih =>
    intro k fu s T hk hfu hs q hG hb
    obtain ⟨fu, rfl⟩ : ∃ g, fu = g + 1 + 1 := ⟨fu - 2, by omega⟩
    have h16 := hG.1
    have hm0 := hG.2 0 (by omega)
    rw [Nat.add_zero] at hm0
    have hc16 := hm0.1.2.2.1
    have ec : cellsN (vs 0) = (vs 0).2.1 * (vs 0).2.2.1 := rfl
    have hp : ∀ j, j < n → k < cellsN (vs j) := fun j hj => by
      obtain ⟨s1, s2⟩ := sb_same_at hsame j hj
      have : cellsN (vs j) = cellsN (vs 0) := by
        unfold cellsN
        rw [s1, s2]
      omega
    have hsf := (fin_f hs.n).mpr hs
    have es : sp_sop (sp_pat vs n) (r + 1) k s = if fin (sp_pat vs n k) then sp_sop (sp_pat vs n) r (k + 1) (FP.dadd s (sp_pat vs n k)) else gc_e 6 := if_pos hsf
    obtain ⟨n1, n2⟩ := mpr_168 (h := h) (f_M_products_b137 (fu + 1)) hG hp hb s n 0 gk_F 0x3ff0000000000000 (Nat.zero_add _) (by unfold gk_F; omega) fd_1_f
    have epat : foN FP.dmul (fun k_1 => ((vs k_1).2.2.2 k).2.2.1) n 0 0x3ff0000000000000 = sp_pat vs n k := rfl
    rw [epat, show a + 0 = a from Nat.add_zero a] at n2
    rw [epat] at n1
    rw [f_M_products_b137]
    dsimp only
    rw [gr_30_5, ga_33 (by omega), gr_30_6, ga_34 (by omega), hm0.2.2.1, hm0.2.2.2.1, gI_mul, ite_le _ _ _ _ (by omega) (by omega), if_neg (by omega), gg_30_11, hb, ite0 0 (by decide), if_pos rfl, es]
    rcases n2 with ⟨z, e⟩ | ⟨z, v, T2, e, t1, t2⟩
    · have ha := fd_add_n hs ((fin_f n1).mp z)
      rw [e, if_pos z]
      unfold f_M_products_b232 f_M_products_b248
      rw [gg_30_11, hb, ite0 0 (by decide), if_pos rfl, fd_dop ha, gc_30]
      by_cases y : fin (FP.dadd s (sp_pat vs n k))
      · rw [m_stepF ha y, gk_ca_some, gk_let_eq, show gI k + (1 : Int32) = gI (k + 1) from gI_add _ 1]
        exact ih (k + 1) (fu + 1) _ T (by omega) (by omega) ((fin_f ha).mp y) q hG hb
      · have est : sp_sop (sp_pat vs n) r (k + 1) (FP.dadd s (sp_pat vs n k)) = gc_e 6 := by
          cases r with
          | zero => exact gc_num_i y
          | succ r =>
            show (if fin (FP.dadd s (sp_pat vs n k)) then _ else gc_num _) = _
            rw [if_neg y]
            exact gc_num_i y
        have qB : mX mSt T (gv_uI T 30 11 (gI 6)) := mX.I _ (mB_st ⟨rfl, rfl⟩)
        rw [m_stepI ha y hb, gk_ca_some, gk_let_eq, show gI k + (1 : Int32) = gI (k + 1) from gI_add _ 1, est]
        exact mpr_137e (q.trans qB) (hG.st qB) hn1 (gu11 6) (by decide) (by decide) fd_0_n _ _ (by omega)
    · have qB : mX mSt T T2 := t1.le fun _ _ w => mB_st w
      rw [e, if_neg z]
      unfold f_M_products_b232 f_M_products_b248
      rw [gg_30_11, t2, ite0 6 (by decide), if_neg (show ¬ (6 = 0) by decide), gk_let_eq, show gI k + (1 : Int32) = gI (k + 1) from gI_add _ 1]
      exact mpr_137e (q.trans qB) (hG.st qB) hn1 t2 (by decide) (by decide) hs.n _ _ (by omega)
theorem mo_products (g : mG S a vs n) (hb : S.1 30 11 = gI 0) (hn1 : 1 ≤ n) (hn8 : n ≤ 8) : mF h S (f_M_products (some 30) (gI a) (gI n) (gv_ov h S)) (gV_1 (sp_prod vs n)) := by
  have hX0 : mX mSt S (gM S []) := (gM_X S []).le fun _ _ z => mQR_st (Or.inr z)
  have g0 := g.st hX0
  have hb0 : (gM S []).1 30 11 = gI (sb_err vs 0) := by
    rw [gM_i _ _ _ _ (by decide)]
    exact hb
  obtain ⟨T1, e1, e2, e3, e4⟩ := mpr_7 (h := h) (a := a) (vs := vs) n 0 gk_F (gM S []) (Nat.zero_add _) (by unfold gk_F; omega) g0 hb0 (Nat.zero_le _)
  have q1 : mX mSt S T1 := hX0.trans (e2.le fun _ _ w => mB_st w)
  have s1 : sb_same vs 1 = true := by
    show (true && sameSh (vs 0) (vs 0)) = true
    rw [Bool.true_and]
    exact decide_eq_true ⟨rfl, rfl⟩
  obtain ⟨T2, p1, p2, p3⟩ := mpr_84 (h := h) e4 hn1 (n - 1) 1 gk_F T1 (by omega) (by unfold gk_F; omega) (g.st q1) (by
    rw [s1, if_pos rfl, bl_0]
    exact e3)
  have q2 : mX mSt S T2 := q1.trans (p2.le fun _ _ w => mB_st w)
  have g2 := g.st q2
  unfold f_M_products
  rw [gs_30_12, show gv_uI S 30 12 (0 : Int32) = gM S [] from gM_0 S]
  rw [Nat.add_zero] at e1
  rw [e1, p1]
  unfold sp_prod
  have hc16 : cellsN (vs 0) ≤ 16 := (g.ok (k := 0) (by omega)).2.2.1
  by_cases z : sb_err vs n = 0
  · rw [z, bl_n] at p3
    rw [show ∀ c : gp_C, sx (sb_err vs n) c = c from fun c => if_pos z]
    by_cases y : sb_same vs n = true
    · rw [if_pos y] at p3 ⊢
      exact mpr_137 (h := h) hn1 y (cellsN (vs 0)) 0 gk_F 0 T2 (Nat.zero_add _) (by unfold gk_F; omega) fd_f0 q2 g2 p3
    · rw [if_neg y] at p3 ⊢
      exact mpr_137e q2 g2 hn1 p3 (by decide) (by decide) fd_0_n 999999 0 (by decide)
  · rw [bl_p z] at p3
    rw [show ∀ c : gp_C, sx (sb_err vs n) c = gc_e (sb_err vs n) from fun c => if_neg z]
    exact mpr_137e q2 g2 hn1 p3 z e4 fd_0_n 999999 0 (by decide)
/-- functions 15 to 18 -/
theorem mo_conditions (g : mG S a vs n) (hb : S.1 30 11 = gI 0) (h1 : 15 ≤ f) (h2 : f ≤ 18) (hn1 : 1 ≤ n) (hn8 : n ≤ 8) (hn2 : f ≠ 15 → 2 ≤ n ∧ n ≤ 3) : mF h S (f_M_conditions (some 30) (gI f) (gI a) (gI n) (gv_ov h S)) (gV_1 (sp_su f vs n)) := by
  by_cases z : f = 15
  · have es : sp_su f vs n = sp_prod vs n := by
      rw [z]
      unfold sp_su
      rw [if_neg (by decide), if_neg (by decide), if_neg (by decide), if_pos rfl]
    unfold f_M_conditions
    rw [es, if_pos (show gI f = (15 : Int32) from by rw [z]; rfl), gc_30, gu_idU]
    exact mo_products g hb hn1 hn8
  · have f16 : f = 16 ∨ f = 17 ∨ f = 18 := by omega
    obtain ⟨m1, m2⟩ := hn2 z
    have es : sp_su f vs n = sp_those f vs n := by
      unfold sp_su
      rw [if_neg (by omega), if_neg (by omega), if_neg (by omega), if_neg (by omega), if_pos f16]
    rw [es]
    exact mo_those g hb f16 m1 m2
end MPR
