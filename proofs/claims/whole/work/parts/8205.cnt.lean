/-! THE PURE PART: counts, ranks, products (class) -/
def sp_cnt (g : Nat) (c : gp_C) (al : Bool) : Bool := if g = 8 then decide (c.1 = 0 ∨ c.1 = 2 ∧ c.2.2.2 = []) else if g = 7 then al || decide (c.1 ≠ 0) else if al = false ∨ c.1 = 1 then decide (c.1 = 1) else if c.1 = 2 then nl_is c.2.2.2 else decide (c.1 = 0 ∨ c.1 = 3)
def sc_cnt (g : Nat) (cs : Nat → gp_C) (al : Bool) : Nat → Nat
  | 0 => 0
  | k + 1 => sc_cnt g cs al k + if sp_cnt g (cs k) al = true then 1 else 0
def sg_cnt (g : Nat) (vs : Nat → gp_V) : Nat → Nat
  | 0 => 0
  | k + 1 => sg_cnt g vs k + sc_cnt g (vs k).2.2.2 (!decide ((vs k).1 = 5)) ((vs k).2.1 * (vs k).2.2.1)
theorem sc_cnt_le (g : Nat) (cs : Nat → gp_C) (al : Bool) : ∀ k, sc_cnt g cs al k ≤ k
  | 0 => Nat.le_refl _
  | k + 1 => by
    have := sc_cnt_le g cs al k
    unfold sc_cnt
    split <;> omega
theorem sg_cnt_le (g : Nat) (vs : Nat → gp_V) : ∀ k, (∀ m, m < k → gp_okV (vs m)) → sg_cnt g vs k ≤ 16 * k
  | 0, _ => Nat.le_refl _
  | k + 1, h => by
    have := sg_cnt_le g vs k fun m hm => h m (by omega)
    have h2 := sc_cnt_le g (vs k).2.2.2 (!decide ((vs k).1 = 5)) ((vs k).2.1 * (vs k).2.2.1)
    have h3 := (h k (by omega)).2.2.1
    unfold sg_cnt
    omega
def cellsN (V : gp_V) : Nat := V.2.1 * V.2.2.1
section CNT
variable {b n : Nat} {h : gk_H} {S : gv_S} {vs : Nat → gp_V} {f : Nat} {row : List UInt64} {j i : Nat} {c : gp_C}
theorem g_counts (hs : gp_st h) (hj : gp_cell b h j c) (g : Nat) (hg : g = 6 ∨ g = 7 ∨ g = 8) (al : Bool) : f_Su_counts (gI g) (some j) (gB al) (gv_ov h S) = some (gB (sp_cnt g c al), gv_ov h S) := by
  have fj := hj.2
  obtain ⟨s, s1, s2⟩ := fl_3 fj
  have hl := hj.1.2.2.2.2.2.2.2.2.1
  have h4 := hj.1.1
  have s1g := id s1
  obtain ⟨-, tt2, tt3, -⟩ := s1g
  have hn : f_Le_isNumeral (some s) (gv_ov h S) = some (gB (nl_is c.2.2.2), gv_ov h S) := n_is hs s1 (by omega)
  have he : f_St_isEmpty (some s) (gv_ov h S) = some (gB (decide (c.2.2.2 = [])), gv_ov h S) := by
    rw [s_emp s1]
    unfold gB
    simp only [decide_eq_true_eq]
  unfold f_Su_counts f_Su_counts_b72 f_Su_counts_b117 f_Su_counts_b54 f_Su_counts_b31 f_Su_counts_b35 f_Su_counts_b85 f_Su_counts_b122 f_Su_counts_b59 f_Su_counts_b36 sp_cnt
  simp only [fl_0 fj, s2, gp_cv (c := 0) tt2.1 tt3, hn, he, gk_ca_some, nbB]
  simp (disch := (first | omega | assumption | exact fd_0_n | exact fd_53_n | exact fd_m53_n)) only [gIl_0, gIl_1, gIl_2, gIl_3, gIl_4, gIl_5, gIl_6, gIl_7, gIl_8, gIl_9, gIl_10, gIl_11, gIl_12, gIl_13, gIl_14, gIl_15, gIl_16, gIl_17, gIl_18, gIl_19, gIl_20, gIl_21, gIl_22, gIl_23, gIl_24, gIl_25, gIl_26, gIl_27, gIl_28, gIl_29, gIl_30, gIl_31, gIl_32, gIl_33, gIl_34, gIl_35, gIl_36, gIl_37, gIl_38, gIl_39, gIl_40, gIl_41, gIl_42, gIl_43, gIl_44, gIl_45, gIl_46, gIl_47, gIl_48, gIl_49, gIl_50, gIl_51, gIl_52, gIl_53, gIl_54, gIl_55, gIl_56, gIl_57, gIl_58, gIl_59, gIl_60, gIl_61, gIl_62, gIl_63, gIl_64, gIl_65, gIl_66, gIl_67, gIl_68, gIl_69, gIl_70, gIl_71, gIl_72, gIl_73, gIl_74, gIl_75, gIl_76, gIl_77, gIl_78, gIl_79, gIl_80, gIl_81, gIl_82, gIl_83, gIl_84, gIl_85, gIl_86, gIl_87, gIl_88, gIl_89, gIl_90, gIl_91, gIl_92, gIl_97, gIl_99, gIl_100, gIl_122, gIl_126, gIl_255, gIl_256, gIl_365, gIl_400, gIl_460, gIl_1900, gIl_3600, gIl_4096, gIl_32767, gIl_65536, gIl_86400, nbI0, nbI1, ite_eq, ite_BI, nbB]
  rcases hg with rfl | rfl | rfl
  · by_cases z1 : c.1 = 1 <;> by_cases z2 : c.1 = 2 <;> by_cases z0 : c.1 = 0 <;> by_cases z3 : c.1 = 3 <;> cases al <;> first | omega | (simp [z0, z1, z2, z3]; try rfl)
  · by_cases z0 : c.1 = 0 <;> cases al <;> (simp [z0]; try rfl)
  · by_cases z0 : c.1 = 0 <;> by_cases z2 : c.1 = 2 <;> by_cases e : c.2.2.2 = [] <;> first | omega | (simp [z0, z2, e]; try rfl)
theorem g_counted (a : ga b h S vs n) (hc : gp_cs b h) (g : Nat) (hg : g = 6 ∨ g = 7 ∨ g = 8) (T : gv_S) (hT : T = gA S f row) : vR b h T (f_Su_counted (gI g) (some 20) (gv_ov h T)) (gc_n (FP.i2d (gI (sg_cnt g vs n)))) := by
  have inner : ∀ (F : Int32 → Option Nat → Int32 → Int32 → gk_H → Option ((Option Nat) × gk_H)) {V : gp_V} {i : Nat} (_ : gp_val b h i V) (m0 kk : Nat) (_ : m0 ≤ 1000) (r k fu : Nat), k + r = cellsN V → r < fu → f_Su_counted_b22 F fu (gI g) (some 20) (gI (m0 + sc_cnt g V.2.2.2 (!decide (V.1 = 5)) k)) (gI kk) (some i) (gI k) (gv_ov h T) = F (gI g) (some 20) (gI (m0 + sc_cnt g V.2.2.2 (!decide (V.1 = 5)) (cellsN V))) (gI (kk + 1)) (gv_ov h T) := by
    intro F V i hv m0 kk hm r
    obtain ⟨cs, fv⟩ := hv.fld
    have h16 := hv.1.2.2.1
    have hk5 : V.1 ≤ 5 := by
      rcases hv.1.2.2.2.2 with z | z
      · omega
      · have := (hv.1.2.2.2.1 0 (by have := hv.1.1; have := hv.1.2.1; exact Nat.mul_pos (by omega) (by omega))).1
        omega
    induction r with
    | zero =>
      intro k fu hk hf
      obtain ⟨fu, rfl⟩ : ∃ f, fu = f + 1 := ⟨fu - 1, by omega⟩
      rw [f_Su_counted_b22]
      dsimp only
      unfold cellsN at hk
      rw [fl_cv fv, v_many hv, gk_ca_some, ite_le _ _ _ _ (by omega) (by omega), if_pos (by omega), gk_let_eq, gI_1, gI_add]
      unfold cellsN
      rw [show k = V.2.1 * V.2.2.1 by omega]
    | succ r ih =>
      intro k fu hk hf
      obtain ⟨fu, rfl⟩ : ∃ f, fu = f + 1 := ⟨fu - 1, by omega⟩
      have hk' := hk
      unfold cellsN at hk'
      obtain ⟨j, j1, j2⟩ := v_at (S := T) hv k (by omega)
      have hle := sc_cnt_le g V.2.2.2 (!decide (V.1 = 5)) k
      have ih' := ih (k + 1) fu (by omega) (by omega)
      have e54 : ∀ al : Bool, al = !decide (V.1 = 5) → f_Su_counted_b54 F (f_Su_counted_b22 F fu) (gI g) (some 20) (gI (m0 + sc_cnt g V.2.2.2 (!decide (V.1 = 5)) k)) (gI kk) (some i) (gI k) (gI g) (some j) (gB al) (gv_ov h T) = F (gI g) (some 20) (gI (m0 + sc_cnt g V.2.2.2 (!decide (V.1 = 5)) (cellsN V))) (gI (kk + 1)) (gv_ov h T) := by
        intro al hal
        unfold f_Su_counted_b54 f_Su_counted_b63
        rw [g_counts hc.1 j2 g hg, gk_ca_some, ite_B, gk_let_eq, gk_let_eq, gk_let_eq, gI_1, gI_add, gI_add, hal]
        rw [sc_cnt] at ih'
        by_cases z : sp_cnt g (V.2.2.2 k) (!decide (V.1 = 5)) = true
        · rw [if_pos z] at ih' ⊢
          rw [← ih', Nat.add_assoc]
        · rw [if_neg z] at ih' ⊢
          exact ih'
      rw [f_Su_counted_b22]
      dsimp only
      rw [fl_cv fv, v_many hv, gk_ca_some, ite_le _ _ _ _ (by omega) (by omega), if_neg (by omega), fl_cv fv, j1, gk_ca_some, fl_0 fv, gI_lit 5, ite_eq _ _ _ _ (by omega) (by decide)]
      by_cases z : V.1 = 5
      · rw [if_pos z]
        exact e54 false (by simp [z])
      · rw [if_neg z]
        exact e54 true (by simp [z])
  have outer : ∀ (r k fu : Nat), k + r = n → r < fu → vR b h T (f_Su_counted_b4 fu (gI g) (some 20) (gI (sg_cnt g vs k)) (gI k) (gv_ov h T)) (gc_n (FP.i2d (gI (sg_cnt g vs n)))) := by
    intro r
    have hn := a.1
    induction r with
    | zero =>
      intro k fu hk hf
      obtain ⟨fu, rfl⟩ : ∃ f, fu = f + 1 := ⟨fu - 1, by omega⟩
      rw [f_Su_counted_b4]
      simp only [ca_id]
      have am : f_Ar_howMany (some 20) (gv_ov h T) = some (gI n, gv_ov h T) := by rw [hT]; exact a_many a
      rw [gc_20, am, gk_ca_some, ite_le _ _ _ _ (by omega) (by omega), if_pos (by omega), show k = n by omega]
      exact vr_n hc (fd_i2df _)
    | succ r ih =>
      intro k fu hk hf
      obtain ⟨fu, rfl⟩ : ∃ f, fu = f + 1 := ⟨fu - 1, by omega⟩
      have am : f_Ar_howMany (some 20) (gv_ov h T) = some (gI n, gv_ov h T) := by rw [hT]; exact a_many a
      have ar : ∃ i, f_Ar_raw (some 20) (gI k) (gv_ov h T) = some (some i, gv_ov h T) ∧ gp_val b h i (vs k) := by rw [hT]; exact a_raw a k (by omega)
      obtain ⟨i, i1, i2⟩ := ar
      have hle := sg_cnt_le g vs k fun m hm => a.ok m (by omega)
      have := inner (f_Su_counted_b4 fu) i2 (sg_cnt g vs k) k (by omega) (cellsN (vs k)) 0 gk_F (by omega) (by
        have := i2.1.2.2.1
        unfold cellsN gk_F
        omega)
      rw [f_Su_counted_b4]
      simp only [ca_id]
      rw [gc_20, am, gk_ca_some, ite_le _ _ _ _ (by omega) (by omega), if_neg (by omega), gc_20, i1, gk_ca_some]
      rw [show sg_cnt g vs k + sc_cnt g (vs k).2.2.2 (!decide ((vs k).1 = 5)) 0 = sg_cnt g vs k from rfl] at this
      rw [show (0 : Int32) = gI 0 from rfl, this]
      exact ih (k + 1) fu (by omega) (by omega)
  exact outer n 0 gk_F (by omega) (by have := a.1; unfold gk_F; omega)
def sp_rk (g : Nat) (vs : Nat → gp_V) : gp_C := sx (bl (sc_err (vs 0).2.2.2 (cellsN (vs 0))) (sW vs 1)) (if sw_x vs 1 < 1 ∨ ((sc_row (vs 0).2.2.2 (cellsN (vs 0))).length : Int) < sw_x vs 1 then gc_e 6 else gc_n ((sr (sc_row (vs 0).2.2.2 (cellsN (vs 0)))).getD (if g = 10 then (sc_row (vs 0).2.2.2 (cellsN (vs 0))).length - (sw_x vs 1).toNat else (sw_x vs 1).toNat - 1) 0))
theorem gJ_nI {z : Int} (h0 : 0 ≤ z) (h1 : z < 2147483648) : Int64.toInt32 (gJ z) = gI z.toNat := by
  have := gJ_toI z.toNat (by omega)
  rw [Int.toNat_of_nonneg h0] at this
  exact this
theorem g_atRank (a : ga b h S vs n) (hc : gp_cs b h) (g : Nat) (hg : g = 10 ∨ g = 11) (hn : 2 ≤ n) : cR b h S (f_Su_atRank (gI g) (some 20) (gv_ov h (gA S 0 []))) (gV_1 (sp_rk g vs)) 1 7 := by
  have k0 := a.ok 0 (by omega)
  have h16 := k0.2.2.1
  have hlen := sc_row_len (vs 0).2.2.2 (cellsN (vs 0))
  have hle : cellsN (vs 0) ≤ 16 := h16
  have okr : okR (sc_row (vs 0).2.2.2 (cellsN (vs 0))) := okR.sc _ fun k hk => k0.2.2.2.1 k hk
  have e1 := sc_err_le (cs := (vs 0).2.2.2) (cellsN (vs 0)) fun k hk => k0.2.2.2.1 k hk
  obtain ⟨w1, w2, w3⟩ := a.sW (k := 1) (by omega)
  have hw : ∀ R, f_Ar_whole (some 20) (1 : Int32) (gv_ov h (gA S (sc_err (vs 0).2.2.2 (cellsN (vs 0))) R)) = some (gJ (sw_x vs 1), gv_ov h (gA S (bl (sc_err (vs 0).2.2.2 (cellsN (vs 0))) (sW vs 1)) R)) := fun R => a_wholeW a hc.1 1 (by omega) e1
  have hgc : f_Ar_gatherCells (some 20) (0 : Int32) (gv_ov h (gA S 0 [])) = some ((), gv_ov h (gA S (sc_err (vs 0).2.2.2 (cellsN (vs 0))) (sc_row (vs 0).2.2.2 (cellsN (vs 0))))) := a_gatherCells (f := 0) (row := []) a 0 (by omega) (by omega) (by show 0 + 16 ≤ 128; decide)
  unfold f_Su_atRank f_Su_atRank_b31 f_Su_atRank_b58 sp_rk
  revert hlen okr hgc
  generalize sc_row (vs 0).2.2.2 (cellsN (vs 0)) = R
  intro hlen okr hgc
  simp only [ca_id]
  rw [gc_20, hgc, gk_ca_some, gc_20, hw, gk_ca_some, gc_20, a_inRow, gk_ca_some, show (1 : Int64) = gJ 1 from gJl_1, jte_lt _ _ _ _ (by omega) (by omega) (by omega) (by omega), gI_toJ _ (by omega), jte_le _ _ _ _ (by omega) (by omega) (by omega) (by omega)]
  by_cases z1 : sw_x vs 1 < 1
  · rw [if_pos z1, if_pos (Or.inl z1)]
    exact cR.of (vr_err hc 6 (by decide) (by decide)) (bl_le e1 w1) rfl
  · rw [if_neg z1]
    by_cases z2 : sw_x vs 1 ≤ (R.length : Int)
    · have hsl := sr_len R
      have fin : ∀ p, p < 2147483648 → p = (if g = 10 then R.length - (sw_x vs 1).toNat else (sw_x vs 1).toNat - 1) → cR b h S (gk_let (gI p) fun x1 => gk_cv (gv_ov h (gA S (bl (sc_err (vs 0).2.2.2 (cellsN (vs 0))) (sW vs 1)) (sr R))) (some 20) 4 (f_Ar_ofRow (some 20) x1 (gv_ov h (gA S (bl (sc_err (vs 0).2.2.2 (cellsN (vs 0))) (sW vs 1)) (sr R)))) fun x2 h1 => f_Va_ofNumber x2 h1) (gV_1 (sx (bl (sc_err (vs 0).2.2.2 (cellsN (vs 0))) (sW vs 1)) (gc_n ((sr R).getD (if g = 10 then R.length - (sw_x vs 1).toNat else (sw_x vs 1).toNat - 1) 0)))) 1 7 := by
        intro p hp e
        rw [← e, gk_let_eq, gc_20, a_ofRow' p hp (by omega), gk_ca_some]
        exact cR.of (vr_n hc (okr.sr.get p).1) (bl_le e1 w1) rfl
      rw [if_pos z2, if_neg (show ¬ (sw_x vs 1 < 1 ∨ (R.length : Int) < sw_x vs 1) by omega), gc_20, a_sort R (by omega) (fun y hy => (okr y hy).1.n), gk_ca_some, gI_lit 10, ite_eq _ _ _ _ (by omega) (by decide), gJ_sub, gJ_sub, gJ_nI (by omega) (by omega), gJ_nI (by omega) (by omega)]
      by_cases z : g = 10
      · rw [if_pos z]
        refine fin _ (by omega) ?_
        rw [if_pos z]
        omega
      · rw [if_neg z]
        refine fin _ (by omega) ?_
        rw [if_neg z]
        omega
    · rw [if_neg z2, if_pos (Or.inr (by omega))]
      exact cR.of (vr_err hc 6 (by decide) (by decide)) (bl_le e1 w1) rfl
def s_gt (x : UInt64) : List UInt64 → Nat
  | [] => 0
  | y :: r => (if fd_k x < fd_k y then 1 else 0) + s_gt x r
def s_am (x : UInt64) : List UInt64 → Bool
  | [] => false
  | y :: r => decide (fd_k y = fd_k x) || s_am x r
def sp_rank (vs : Nat → gp_V) : gp_C := sx (bl (sN vs 0).1 (sc_err (vs 1).2.2.2 (cellsN (vs 1)))) (if s_am (sN vs 0).2 (sc_row (vs 1).2.2.2 (cellsN (vs 1))) = true then gc_n (FP.i2d (gI (1 + s_gt (sN vs 0).2 (sc_row (vs 1).2.2.2 (cellsN (vs 1)))))) else gc_e 7)
theorem g_rank (a : ga b h S vs n) (hc : gp_cs b h) (hn : 2 ≤ n) : cR b h S (f_Su_rank (some 20) (gv_ov h (gA S 0 []))) (gV_1 (sp_rank vs)) 1 7 := by
  have k1 := a.ok 1 (by omega)
  have h16 := k1.2.2.1
  have hlen := sc_row_len (vs 1).2.2.2 (cellsN (vs 1))
  have hle : cellsN (vs 1) ≤ 16 := h16
  have okr : okR (sc_row (vs 1).2.2.2 (cellsN (vs 1))) := okR.sc _ fun k hk => k1.2.2.2.1 k hk
  have e1 := sc_err_le (cs := (vs 1).2.2.2) (cellsN (vs 1)) fun k hk => k1.2.2.2.1 k hk
  obtain ⟨w1, w2, w3⟩ := a.sN (k := 0) (by omega)
  have hgc : f_Ar_gatherCells (some 20) (gI 1) (gv_ov h (gA S (sN vs 0).1 [])) = some ((), gv_ov h (gA S (bl (sN vs 0).1 (sc_err (vs 1).2.2.2 (cellsN (vs 1)))) (sc_row (vs 1).2.2.2 (cellsN (vs 1))))) := a_gatherCells (f := (sN vs 0).1) (row := []) a 1 (by omega) w3 (by show 0 + 16 ≤ 128; decide)
  have ha := a_amountN (f := 0) (row := []) a hc.1 0 (by omega) (by omega)
  rw [show bl 0 (sN vs 0).1 = (sN vs 0).1 from rfl] at ha
  unfold f_Su_rank sp_rank
  have hb := bl_le w3 e1
  revert hlen okr hgc hb
  generalize sc_row (vs 1).2.2.2 (cellsN (vs 1)) = R
  generalize bl (sN vs 0).1 (sc_err (vs 1).2.2.2 (cellsN (vs 1))) = e
  intro hlen okr hgc hb
  rw [show (0 : Int32) = gI 0 from rfl, gc_20, ha, gk_ca_some, gc_20, show (1 : Int32) = gI 1 from rfl, hgc, gk_ca_some]
  have loop : ∀ (t p : List UInt64) (fu m : Nat) (am : Bool), R = p ++ t → t.length < fu → m ≤ p.length → cR b h S (f_Su_rank_b19 fu (some 20) (sN vs 0).2 (gI m) (gB am) (gI p.length) (gv_ov h (gA S e R))) (gV_1 (sx e (if (am || s_am (sN vs 0).2 t) = true then gc_n (FP.i2d (gI (1 + (m + s_gt (sN vs 0).2 t)))) else gc_e 7))) 1 7 := by
    intro t
    induction t with
    | nil =>
      intro p fu m am hp hf hm
      obtain ⟨fu, rfl⟩ : ∃ f, fu = f + 1 := ⟨fu - 1, by omega⟩
      have hl : R.length = p.length := by rw [hp]; simp
      rw [f_Su_rank_b19]
      unfold f_Su_rank_b96
      simp only [ca_id]
      rw [gc_20, a_inRow, gk_ca_some, ite_le _ _ _ _ (by omega) (by omega), if_pos (by omega), ite_B, gI_1, gI_add, show s_gt (sN vs 0).2 [] = 0 from rfl, show s_am (sN vs 0).2 [] = false from rfl, Bool.or_false, Nat.add_zero]
      by_cases z : am = true
      · rw [if_pos z, if_pos z]
        exact cR.of (vr_n hc (fd_i2df _)) hb rfl
      · rw [if_neg z, if_neg z]
        exact cR.of (vr_err hc 7 (by decide) (by decide)) hb rfl
    | cons x t ih =>
      intro p fu m am hp hf hm
      obtain ⟨fu, rfl⟩ : ∃ f, fu = f + 1 := ⟨fu - 1, by omega⟩
      rw [List.length_cons] at hf
      have hl : R.length = p.length + (t.length + 1) := by rw [hp]; simp
      have hx := okr x (by rw [hp]; simp)
      have hg : R.getD p.length 0 = x := by rw [hp]; exact getD_mid p t x
      have ih' : ∀ (m' : Nat) (am' : Bool), m' ≤ p.length + 1 → cR b h S (f_Su_rank_b19 fu (some 20) (sN vs 0).2 (gI m') (gB am') (gI (p.length + 1)) (gv_ov h (gA S e R))) (gV_1 (sx e (if (am' || s_am (sN vs 0).2 t) = true then gc_n (FP.i2d (gI (1 + (m' + s_gt (sN vs 0).2 t)))) else gc_e 7))) 1 7 := fun m' am' q => by
        have := ih (p ++ [x]) fu m' am' (by rw [hp]; simp) (by omega) (by rw [List.length_append, List.length_singleton]; exact q)
        rw [List.length_append, List.length_singleton] at this
        exact this
      have e45 : ∀ d : Nat, d = (if fd_k (sN vs 0).2 < fd_k x then 1 else 0) → cR b h S (f_Su_rank_b45 (f_Su_rank_b19 fu) (some 20) (sN vs 0).2 (gB am) (gI p.length) (gI m) (gI d) (gv_ov h (gA S e R))) (gV_1 (sx e (if (am || s_am (sN vs 0).2 (x :: t)) = true then gc_n (FP.i2d (gI (1 + (m + s_gt (sN vs 0).2 (x :: t))))) else gc_e 7))) 1 7 := by
        intro d hd
        have hd1 : d ≤ 1 := by rw [hd]; split <;> omega
        have eg : m + s_gt (sN vs 0).2 (x :: t) = (m + d) + s_gt (sN vs 0).2 t := by rw [s_gt, ← hd]; omega
        unfold f_Su_rank_b45 f_Su_rank_b63 f_Su_rank_b68
        rw [gk_let_eq, gk_let_eq, gI_add, ite_B, gc_20, a_ofRow' _ (by omega) (by omega), gk_ca_some, hg, fi_eq _ _ hx.1.n w1.n, gk_let_eq, gk_let_eq, show gI p.length + (1 : Int32) = gI (p.length + 1) from gI_add p.length 1, eg, s_am]
        cases am
        · rw [if_neg (by decide)]
          by_cases z : fd_k x = fd_k (sN vs 0).2
          · rw [if_pos z, decide_eq_true z, Bool.true_or]
            exact ih' (m + d) true (by omega)
          · rw [if_neg z, decide_eq_false z, Bool.false_or]
            exact ih' (m + d) false (by omega)
        · rw [if_pos rfl]
          exact ih' (m + d) true (by omega)
      rw [f_Su_rank_b19]
      unfold f_Su_rank_b96
      dsimp only
      rw [gc_20, a_inRow, gk_ca_some, ite_le _ _ _ _ (by omega) (by omega), if_neg (by omega), gc_20, a_ofRow' _ (by omega) (by omega), gk_ca_some, hg, fi_le _ _ hx.1.n w1.n]
      by_cases z : fd_k x ≤ fd_k (sN vs 0).2
      · rw [if_pos z]
        exact e45 0 (by rw [if_neg (by omega)])
      · rw [if_neg z]
        exact e45 1 (by rw [if_pos (by omega)])
  have := loop R [] gk_F 0 false rfl (by unfold gk_F; omega) (Nat.le_refl _)
  rw [Bool.false_or, Nat.zero_add] at this
  exact this
end CNT
