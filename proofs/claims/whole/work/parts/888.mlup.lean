/-! THE PURE PART: the reference's lookups (74 to 80), all -/
section MLU
variable {h : gk_H} {S S0 S1 T : gv_S} {a n f : Nat} {vs : Nat → gp_V} {V : gp_V} {x w : gp_C}
/-- a row put over into a column -/
theorem mtp_14 (g : Option Nat → Int32 → Int32 → gk_H → Option (Unit × gk_H)) {v r : Nat} (hv : v < 16) (hr : r < V.2.1) (hV : gp_okV V) : ∀ (m c fu : Nat) (T : gv_S), c + m = V.2.2.1 → m < fu → mv T v V → (∀ r' c', r' < V.2.1 → c' < V.2.2.1 → (r' < r ∨ r' = r ∧ c' < c) → mc T (256 + (c' * V.2.1 + r')) (V.2.2.2 (r' * V.2.2.1 + c'))) → ∃ T', f_M_transpose_b14 g fu (some 30) (gI v) (gI r) (gI c) (gv_ov h T) = g (some 30) (gI v) (gI (r + 1)) (gv_ov h T') ∧ mX mSt T T' ∧ T'.1 30 11 = T.1 30 11 ∧ mv T' v V ∧ (∀ r' c', r' < V.2.1 → c' < V.2.2.1 → r' < r + 1 → mc T' (256 + (c' * V.2.1 + r')) (V.2.2.2 (r' * V.2.2.1 + c'))) := by
  have h16 := hV.2.2.1
  have inb : ∀ r' c', r' < V.2.1 → c' < V.2.2.1 → r' * V.2.2.1 + c' < V.2.1 * V.2.2.1 := fun r' c' a1 a2 => by
    have h1 := Nat.mul_le_mul_right V.2.2.1 (show r' + 1 ≤ V.2.1 by omega)
    rw [Nat.add_mul, Nat.one_mul] at h1
    omega
  have inb2 : ∀ r' c', r' < V.2.1 → c' < V.2.2.1 → c' * V.2.1 + r' < 16 := fun r' c' a1 a2 => by
    have h1 := Nat.mul_le_mul_right V.2.1 (show c' + 1 ≤ V.2.2.1 by omega)
    rw [Nat.add_mul, Nat.one_mul, Nat.mul_comm V.2.2.1] at h1
    omega
  have inj : ∀ r1 c1 r2 c2, r1 < V.2.1 → r2 < V.2.1 → c1 * V.2.1 + r1 = c2 * V.2.1 + r2 → c1 = c2 ∧ r1 = r2 := fun r1 c1 r2 c2 a1 a2 e => by
    have d1 := sec_div (q := c1) a1
    have d2 := sec_div (q := c2) a2
    exact ⟨by rw [← d1.1, ← d2.1, e], by rw [← d1.2, ← d2.2, e]⟩
  intro m
  induction m with
  | zero =>
    intro c fu T hc hf hm a
    obtain ⟨fu, rfl⟩ : ∃ g, fu = g + 1 := ⟨fu - 1, by omega⟩
    obtain ⟨l1, l2⟩ := hm.sh
    rw [f_M_transpose_b14]
    dsimp only
    rw [gr_30_6, ga_34 (by omega), hm.2.2.2.1, ite_le _ _ _ _ (by omega) (by omega), if_pos (by omega), gk_let_eq, show gI r + (1 : Int32) = gI (r + 1) from gI_add _ 1]
    exact ⟨T, rfl, mX.refl _ _, rfl, hm, fun r' c' a1 a2 a3 => a r' c' a1 a2 (by omega)⟩
  | succ m ih =>
    intro c fu T hc hf hm a
    obtain ⟨fu, rfl⟩ : ∃ g, fu = g + 1 := ⟨fu - 1, by omega⟩
    obtain ⟨l1, l2⟩ := hm.sh
    have hs := inb r c hr (by omega)
    have ht := inb2 r c hr (by omega)
    have hok := hV.2.2.2.1 _ hs
    obtain ⟨T1, e1, e2, e3⟩ := m_copyCell (h := h) hok (hm.2.2.2.2 _ hs) (show 16 * v + (r * V.2.2.1 + c) < 272 by omega) (show 256 + (c * V.2.1 + r) < 272 by omega) (by omega)
    have hm1 : mv T1 v V := hm.X e2 fun x y z => by
      unfold mCl at z
      omega
    have a1 : ∀ r' c', r' < V.2.1 → c' < V.2.2.1 → (r' < r ∨ r' = r ∧ c' < c + 1) → mc T1 (256 + (c' * V.2.1 + r')) (V.2.2.2 (r' * V.2.2.1 + c')) := fun r' c' b1 b2 b3 => by
      by_cases q : r' = r ∧ c' = c
      · rw [q.1, q.2]
        exact e3
      · have hne : c' * V.2.1 + r' ≠ c * V.2.1 + r := fun y => by
          obtain ⟨y1, y2⟩ := inj _ _ _ _ b1 hr y
          exact q ⟨y2, y1⟩
        have ht' := inb2 r' c' b1 b2
        exact (a r' c' b1 b2 (by omega)).X e2 (hV.2.2.2.1 _ (inb r' c' b1 b2)).2.2.2.2.2.2.2.2.1 fun x y z => by
          unfold mCl at z
          omega
    obtain ⟨T2, q1, q2, q3, q4, q5⟩ := ih (c + 1) fu T1 (by omega) (by omega) hm1 a1
    rw [f_M_transpose_b14]
    dsimp only
    rw [gr_30_6, ga_34 (by omega), hm.2.2.2.1, ite_le _ _ _ _ (by omega) (by omega), if_neg (by omega), gr_30_6, ga_34 (by omega), hm.2.2.2.1, gr_30_5, ga_33 (by omega), hm.2.2.1, gI_lit 16, gI_mul, gI_mul, gI_add, gI_add, gI_lit 256, gI_mul, gI_add, gI_add, show 16 * v + r * V.2.2.1 + c = 16 * v + (r * V.2.2.1 + c) by omega, show 256 + c * V.2.1 + r = 256 + (c * V.2.1 + r) by omega, gc_30, e1, gk_ca_some, gk_let_eq, show gI c + (1 : Int32) = gI (c + 1) from gI_add _ 1, q1]
    exact ⟨T2, rfl, (e2.le fun _ _ z => mCl_st ht z).trans q2, q3.trans (mCl_b e2), q4, q5⟩
theorem mo_transpose (g : mG S a vs n) (hb : S.1 30 11 = gI 0) (hn1 : 1 ≤ n) : mF h S (f_M_transpose (some 30) (gI a) (gv_ov h S)) (sp_tp (vs 0)) := by
  have h16 := g.1
  have hm0 := g.2 0 (by omega)
  rw [Nat.add_zero] at hm0
  have hV := hm0.1
  have v1 := hV.1
  have v2 := hV.2.1
  have v3 := hV.2.2.1
  obtain ⟨l1, l2⟩ := hm0.sh
  have hokT := sp_sec_ok hV (row := 0) (col := 0) (hi := (vs 0).2.1) (wi := (vs 0).2.2.1) true v1 v2 (by omega) (by omega)
  have eC : ∀ r c, r < (vs 0).2.1 → (sp_tp (vs 0)).2.2.2 (c * (vs 0).2.1 + r) = (vs 0).2.2.2 (r * (vs 0).2.2.1 + c) := fun r c hr => by
    obtain ⟨d1, d2⟩ := sec_div (q := c) hr
    show (vs 0).2.2.2 ((0 + (if true = true then (c * (vs 0).2.1 + r) % (vs 0).2.1 else _)) * (vs 0).2.2.1 + (0 + (if true = true then (c * (vs 0).2.1 + r) / (vs 0).2.1 else _))) = _
    rw [if_pos rfl, if_pos rfl, d1, d2, Nat.zero_add, Nat.zero_add]
  have loop : ∀ (m r fu : Nat) (T : gv_S), r + m = (vs 0).2.1 → m < fu → mX mSt S T → T.1 30 11 = gI 0 → mv T a (vs 0) → (∀ r' c', r' < (vs 0).2.1 → c' < (vs 0).2.2.1 → r' < r → mc T (256 + (c' * (vs 0).2.1 + r')) ((vs 0).2.2.2 (r' * (vs 0).2.2.1 + c'))) → mF h S (f_M_transpose_b2 fu (some 30) (gI a) (gI r) (gv_ov h T)) (sp_tp (vs 0)) := by
    intro m
    induction m with
    | zero =>
      intro r fu T hr hf q hT hm aa
      obtain ⟨fu, rfl⟩ : ∃ g, fu = g + 1 := ⟨fu - 1, by omega⟩
      have k6 : (gv_uI T 32 16 (gI 5)).1 34 a = gI (vs 0).2.2.1 := by
        rw [gu_I1 _ _ _ _ _ _ (by omega)]
        exact hm.2.2.2.1
      have k5 : (gv_uI (gv_uI T 32 16 (gI 5)) 33 16 (gI (vs 0).2.2.1)).1 33 a = gI (vs 0).2.1 := by
        rw [gu_I1 _ _ _ _ _ _ (by omega), gu_I1 _ _ _ _ _ _ (by omega)]
        exact hm.2.2.1
      rw [f_M_transpose_b2]
      dsimp only
      rw [gr_30_5, ga_33 (by omega), hm.2.2.1, ite_le _ _ _ _ (by omega) (by omega), if_pos (by omega), gI_lit 16, gI_lit 5, gr_30_4, gt_32 (by decide), gr_30_5, gr_30_6, ga_34 (by omega), k6, gt_33 (by decide), gr_30_6, gr_30_5, ga_33 (by omega), k5, gt_34 (by decide)]
      refine mF.val (q.trans (mSec_st _ _)) ?_ ?_
      · rw [gu_I1 _ _ _ _ _ _ (by omega), gu_I1 _ _ _ _ _ _ (by omega), gu_I1 _ _ _ _ _ _ (by omega)]
        exact hT
      · have hRK : (vs 0).2.2.1 * (vs 0).2.1 ≤ 16 := by rw [Nat.mul_comm]; exact v3
        refine mSec.mv (C := (sp_tp (vs 0)).2.2.2) (vs 0).2.2.1 (vs 0).2.1 v2 v1 hRK (fun j hj => hokT.2.2.2.1 j ?_) fun j hj hD => ?_
        · rw [sp_sec_N, Nat.mul_comm]
          exact hj
        · have hd := Nat.div_add_mod j (vs 0).2.1
          rw [Nat.mul_comm] at hd
          have hmod := Nat.mod_lt j (show (vs 0).2.1 > 0 by omega)
          have hq : j / (vs 0).2.1 < (vs 0).2.2.1 := (Nat.div_lt_iff_lt_mul (by omega)).mpr hD
          have := aa (j % (vs 0).2.1) (j / (vs 0).2.1) hmod hq (by omega)
          rw [← eC _ _ hmod, hd] at this
          exact this
    | succ m ih =>
      intro r fu T hr hf q hT hm aa
      obtain ⟨fu, rfl⟩ : ∃ g, fu = g + 1 := ⟨fu - 1, by omega⟩
      obtain ⟨T1, e1, e2, e3, e4, e5⟩ := mtp_14 (h := h) (f_M_transpose_b2 fu) (v := a) (r := r) (by omega) (by omega) hV (vs 0).2.2.1 0 gk_F T (Nat.zero_add _) (by unfold gk_F; omega) hm (fun r' c' b1 b2 b3 => aa r' c' b1 b2 (by omega))
      have e1' : f_M_transpose_b14 (f_M_transpose_b2 fu) gk_F (some 30) (gI a) (gI r) (0 : Int32) (gv_ov h T) = _ := e1
      rw [f_M_transpose_b2]
      dsimp only
      rw [gr_30_5, ga_33 (by omega), hm.2.2.1, ite_le _ _ _ _ (by omega) (by omega), if_neg (by omega), e1']
      exact ih (r + 1) fu T1 (by omega) (by omega) (q.trans e2) (e3.trans hT) e4 e5
  exact loop (vs 0).2.1 0 gk_F S (Nat.zero_add _) (by unfold gk_F; omega) (mX.refl _ _) hb hm0 fun r' c' _ _ y => absurd y (Nat.not_lt_zero _)
theorem oI_neg (o : Option Nat) (ho : ∀ z, o = some z → z < 256) {β : Type} (X Y : β) : (if (0 : Int32) ≤ oI o then X else Y) = if o = none then Y else X := by
  cases o with
  | none =>
    rw [show oI none = (-1 : Int32) from rfl, if_neg (by decide), if_pos rfl]
  | some z =>
    have := ho z rfl
    rw [show oI (some z) = gI z from rfl, p0_le (by omega), if_neg (by simp)]
theorem bl_f0 (f : Nat) : bl f 0 = f := by
  unfold bl
  by_cases z : f = 0
  · rw [if_pos z, z]
  · rw [if_neg z]
/-- MATCH -/
theorem mo_matchF (g : mG S a vs n) (hb : S.1 30 11 = gI 0) (hn2 : 2 ≤ n) (hn3 : n ≤ 3) : mF h S (f_M_lookups (some 30) (gI 77) (gI a) (gI n) (gv_ov h S)) (sp_lo 77 vs n) := by
  have h16 := g.1
  have hm0 := g.2 0 (by omega)
  rw [Nat.add_zero] at hm0
  have he8 := sp_err_le (sp_1_ok hm0.1)
  obtain ⟨T, e1, e2, e3⟩ := m_wantAny (h := h) hm0 (by omega) hb (by decide)
  rw [bl_n] at e3
  have qT : mX mSt S T := e2.le fun _ _ z => mQ_st z
  have b230 : ∀ h : gk_H, f_M_lookups_b230 h = some ((), h) := fun _ => rfl
  have c0 : (0 : Int64) = gJ 0 := rfl
  have b80 : ∀ (U : gv_S) (i : Int) (e : Nat), mX mSt S U → U.1 30 11 = gI e → e ≤ 8 → -9007199254740992 < i → i < 9007199254740992 → (e = 0 → sp_err (sp_1 (vs 0)) = 0 ∧ i = oX vs n 2) → mF h S (f_M_lookups_b80 (some 30) (gI a) (gI (16 * a)) (gJ i) (gv_ov h U)) (gV_1 (sx e (sp_mat vs n))) := by
    intro U i e qU hU he i1 i2 inv
    have hm1 := (g.st qU).2 1 (by omega)
    have hmU0 := (g.st qU).2 0 (by omega)
    rw [Nat.add_zero] at hmU0
    obtain ⟨l1, l2⟩ := hm1.sh
    have v1 := hm1.1.1
    have v2 := hm1.1.2.1
    have v3 := hm1.1.2.2.1
    unfold f_M_lookups_b80
    rw [gg_30_11, hU, itl0 e he]
    by_cases z : e = 0
    · obtain ⟨z0, z1⟩ := inv z
      obtain ⟨o1, o4⟩ := one_of hm0.1 z0
      obtain ⟨x1, x2⟩ := hmU0.c0 o1
      rw [z] at hU
      rw [if_pos z, show ∀ c : gp_C, sx e c = c from fun c => if_pos z, show gI a + (1 : Int32) = gI (a + 1) from gI_add _ 1, gr_30_5, ga_33 (by omega), hm1.2.2.1, gI_lit 1, ite_le _ _ _ _ (by omega) (by decide)]
      unfold sp_mat
      have b121 : ((vs 1).2.1 = 1 ∨ (vs 1).2.2.1 = 1) → mF h S (f_M_lookups_b121 (some 30) (gI a) (gI (16 * a)) (gJ i) (gv_ov h U)) (gV_1 (sp_fdE 7 (sp_pl (sp_wt (sp_1 (vs 0))) (vs 1).2.2.2 (cellsN (vs 1)) (oX vs n 2)))) := by
        intro _
        have epl : ∀ way : Int, (way = 0 ∨ way = 1 ∨ way = -1) → (way = 0 ↔ i = 0) → (way = 1 ↔ 0 < i) → sp_pl (sp_wt (sp_1 (vs 0))) (vs 1).2.2.2 (cellsN (vs 1)) (oX vs n 2) = sp_pl (sp_wt (sp_1 (vs 0))) (vs 1).2.2.2 (cellsN (vs 1)) way := fun way yw y0 y1 => by
          unfold sp_pl
          rw [← z1]
          by_cases q : i = 0
          · rw [if_pos q, if_pos (y0.mpr q)]
          · rw [if_neg q, if_neg (fun y => q (y0.mp y))]
            congr 1
            by_cases q2 : 0 < i
            · rw [decide_eq_true q2, decide_eq_true (by rw [y1.mpr q2]; decide)]
            · rw [decide_eq_false q2, decide_eq_false]
              intro y
              have : way ≠ 1 := fun y3 => q2 (y1.mp y3)
              omega
        have hcl : ∀ j, j < cellsN (vs 1) → mc U (16 * (a + 1) + j * 1) ((vs 1).2.2.2 j) ∧ gp_okC ((vs 1).2.2.2 j) ∧ 16 * (a + 1) + j * 1 < 256 := fun j hj => by
          rw [Nat.mul_one]
          exact ⟨hm1.2.2.2.2 j hj, hm1.1.2.2.2.1 j hj, by unfold cellsN at hj; omega⟩
        have b171 : ∀ (way : Int), (way = 0 ∨ way = 1 ∨ way = -1) → (way = 0 ↔ i = 0) → (way = 1 ↔ 0 < i) → mF h S (f_M_lookups_b171 (some 30) (some 30) (gI (16 * a)) (gI (16 * (a + 1))) (gI (cellsN (vs 1))) (gI 1) (gN way) (gv_ov h U)) (gV_1 (sp_fdE 7 (sp_pl (sp_wt (sp_1 (vs 0))) (vs 1).2.2.2 (cellsN (vs 1)) (oX vs n 2)))) := by
          intro way yw y0 y1
          have hm := m_match (h := h) x1 x2 (by omega) o4 (show cellsN (vs 1) ≤ 16 from v3) hcl way yw
          have hpl : ∀ z, sp_pl (sp_wt (sp_1 (vs 0))) (vs 1).2.2.2 (cellsN (vs 1)) way = some z → z < cellsN (vs 1) := fun z hz => sp_pl_b hz
          rw [epl way yw y0 y1]
          unfold f_M_lookups_b171 f_M_lookups_b187
          rw [gc_30, hm, gk_ca_some, oI_neg _ (fun z hz => by have := hpl z hz; unfold cellsN at this; omega)]
          generalize sp_pl (sp_wt (sp_1 (vs 0))) (vs 1).2.2.2 (cellsN (vs 1)) way = o at hpl ⊢
          cases o with
          | none =>
            rw [if_pos rfl, gc_30, gI_lit 7, m_fail 0 7 hU (by decide), bl_n, gk_ca_some, gc_30]
            have e : ∀ x : Option (Unit × gk_H), (gk_ca x fun _ h1 => f_M_lookups_b230 h1) = x := fun x => gu_idU x
            rw [e]
            exact mF.ansE (fd_i2df _).n (qU.trans (mX.I _ (mB_st ⟨rfl, rfl⟩))) (gu11 7) (by decide) (by decide)
          | some p =>
            have hp := hpl p rfl
            rw [if_neg (fun y => by cases y), gc_30]
            have e : ∀ x : Option (Unit × gk_H), (gk_ca x fun _ h1 => f_M_lookups_b230 h1) = x := fun x => gu_idU x
            rw [e, show oI (some p) = gI p from rfl, show gI p + (1 : Int32) = gI (p + 1) from gI_add _ 1]
            exact mF.ansN (fd_i2df _) qU hU
        unfold f_M_lookups_b121
        rw [show gI a + (1 : Int32) = gI (a + 1) from gI_add _ 1, gr_30_5, ga_33 (by omega), hm1.2.2.1, gr_30_6, ga_34 (by omega), hm1.2.2.2.1, c0, jte_ge _ _ _ _ (by omega) (by omega) (by decide) (by decide), jte_le _ _ _ _ (by omega) (by omega) (by decide) (by decide), gI_lit 16, gI_mul, gI_mul]
        by_cases y : 0 ≤ i
        · rw [if_pos y]
          by_cases y2 : i ≤ 0
          · rw [if_pos y2]
            exact b171 0 (Or.inl rfl) ⟨fun _ => by omega, fun _ => rfl⟩ ⟨fun q => absurd q (by decide), fun q => by omega⟩
          · rw [if_neg y2]
            exact b171 1 (Or.inr (Or.inl rfl)) ⟨fun q => absurd q (by decide), fun q => by omega⟩ ⟨fun _ => by omega, fun _ => rfl⟩
        · rw [if_neg y, gI_m1B, gI_lit 1]
          exact b171 (-1) (Or.inr (Or.inr rfl)) ⟨fun q => absurd q (by decide), fun q => by omega⟩ ⟨fun q => absurd q (by decide), fun q => by omega⟩
      by_cases yr : (vs 1).2.1 ≤ 1
      · have yr1 : (vs 1).2.1 = 1 := by omega
        rw [if_pos yr, if_pos (Or.inl yr1)]
        exact b121 (Or.inl yr1)
      · rw [if_neg yr, gr_30_6, ga_34 (by omega), hm1.2.2.2.1, ite_le _ _ _ _ (by omega) (by decide)]
        by_cases yc : (vs 1).2.2.1 ≤ 1
        · have yc1 : (vs 1).2.2.1 = 1 := by omega
          rw [if_pos yc, if_pos (Or.inr yc1)]
          exact b121 (Or.inr yc1)
        · rw [if_neg yc, if_neg (by omega), gc_30, gu_idU, gI_lit 7, m_fail 0 7 hU (by decide), bl_n]
          exact mF.err (qU.trans (mX.I _ (mB_st ⟨rfl, rfl⟩))) (gu11 7) (by decide) (by decide)
    · rw [if_neg z, show ∀ c : gp_C, sx e c = gc_e e from fun c => if_neg z]
      exact mF.err qU hU z he
  rw [lo_77]
  unfold f_M_lookups
  rw [gI_lit 76, gI_lit 77, ite_le _ _ _ _ (by decide) (by decide), if_pos (by decide), ite_eq _ _ _ _ (by decide) (by decide), if_neg (by decide), if_pos rfl, gc_30, e1, gk_ca_some, gI_lit 3, ite_eq _ _ _ _ (by omega) (by decide)]
  by_cases y3 : n = 3
  · obtain ⟨w1, w2, w3⟩ := g.sW (k := 2) (by omega)
    obtain ⟨T2, q1, q2, q3⟩ := m_whoW (h := h) (g.st qT) (k := 2) (by omega) e3 he8
    rw [if_pos y3, show gI a + (2 : Int32) = gI (a + 2) from gI_add _ 2, gc_30, q1, gk_ca_some]
    have eo : oW vs n 2 = sW vs 2 := if_pos (by omega)
    have eox : oX vs n 2 = sw_x vs 2 := if_pos (by omega)
    rw [eo]
    refine b80 T2 _ _ (qT.trans (q2.le fun _ _ z => mQ_st z)) q3 (bl_le he8 w1) (by split <;> omega) (by split <;> omega) fun z => ?_
    have z1 := bl_z.mp z
    exact ⟨z1.1, by rw [if_pos z1.1, eox]⟩
  · rw [if_neg y3, show (1 : Int64) = gJ 1 from rfl]
    have eo : oW vs n 2 = 0 := if_neg (by omega)
    have eox : oX vs n 2 = 1 := if_neg (by omega)
    rw [eo, bl_f0]
    exact b80 T 1 _ qT e3 he8 (by decide) (by decide) fun z => ⟨z, eox.symm⟩
end MLU
