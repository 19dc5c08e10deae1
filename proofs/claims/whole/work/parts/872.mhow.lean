/-! THE PURE PART: the reference's counts and ranks; its figures (0 to 14) -/
def mRd (a b : Nat) : Prop := a = 30 ∧ b = 16
theorem mRd_q {a b : Nat} (z : mRd a b) : mQ a b := ⟨z.1, Or.inr z.2⟩
theorem mRd_st {a b : Nat} (z : mRd a b) : mSt a b := mQ_st (mRd_q z)
section MHO
variable {h : gk_H} {S S0 S1 : gv_S} {x : UInt64} {row : List UInt64} {a n : Nat} {vs : Nat → gp_V} {V : gp_V}
/-- the numeral of a text, asked for alone -/
theorem m_isNumC {l : List Nat} {i o : Nat} (hs : m_src h S i o l) : ∃ S', f_M_isNumeral (some 30) (some i) (gI o) (gI l.length) (gv_ov h S) = some (gB (nl_is l), gv_ov h S') ∧ mX mRd S S' := by
  refine ⟨_, m_isNum hs, ?_⟩
  split
  · exact mX.D _ ⟨rfl, rfl⟩
  · exact mX.refl _ _
theorem mh_216 (g : Option Nat → Int32 → Int32 → Int32 → Int32 → Int32 → gk_H → Option (Int32 × gk_H)) (g2 : Option Nat → Int32 → Int32 → Int32 → Int32 → Int32 → Int32 → Int32 → gk_H → Option (Int32 × gk_H)) (f A N v al : Int32) (c k : Nat) (t : Bool) : f_M_howMany_b216 g g2 (some 30) f A N (gI c) v al (gI k) (gB t) (gv_ov h S) = g2 (some 30) f A N (gI (c + if t = true then 1 else 0)) v al (gI (k + 1)) (gv_ov h S) := by
  unfold f_M_howMany_b216 f_M_howMany_b232
  rw [ite_B]
  cases t
  · rw [if_neg (by decide), if_neg (by decide), gk_let_eq, show gI k + (1 : Int32) = gI (k + 1) from gI_add _ 1]
    rfl
  · rw [if_pos rfl, if_pos rfl, gk_let_eq, show gI k + (1 : Int32) = gI (k + 1) from gI_add _ 1, show gI c + (1 : Int32) = gI (c + 1) from gI_add _ 1]
theorem mh_35 (g : Option Nat → Int32 → Int32 → Int32 → Int32 → Int32 → gk_H → Option (Int32 × gk_H)) (f : Nat) (hf : f = 6 ∨ f = 7 ∨ f = 8) (A N : Int32) {v : Nat} (hv : v < 16) (al : Bool) : ∀ (r k fu c : Nat) (T : gv_S), k + r = V.2.1 * V.2.2.1 → r < fu → mv T v V → ∃ T', f_M_howMany_b35 g fu (some 30) (gI f) A N (gI (c + sc_cnt f V.2.2.2 al k)) (gI v) (gB al) (gI k) (gv_ov h T) = g (some 30) (gI f) A N (gI (c + sc_cnt f V.2.2.2 al (V.2.1 * V.2.2.1))) (gI (v + 1)) (gv_ov h T') ∧ mX mRd T T' := by
  intro r
  induction r with
  | zero =>
    intro k fu c T hk hfu hm
    obtain ⟨fu, rfl⟩ : ∃ f, fu = f + 1 := ⟨fu - 1, by omega⟩
    have h16 := hm.1.2.2.1
    have ek : k = V.2.1 * V.2.2.1 := by omega
    rw [f_M_howMany_b35]
    dsimp only
    rw [gr_30_5, ga_33 (by omega), gr_30_6, ga_34 (by omega), hm.2.2.1, hm.2.2.2.1, gI_mul, ite_le _ _ _ _ (by omega) (by omega), if_pos (by omega), gk_let_eq, show gI v + (1 : Int32) = gI (v + 1) from gI_add _ 1, ek]
    exact ⟨T, rfl, mX.refl _ _⟩
  | succ r ih =>
    intro k fu c T hk hfu hm
    obtain ⟨fu, rfl⟩ : ∃ f, fu = f + 1 := ⟨fu - 1, by omega⟩
    have h16 := hm.1.2.2.1
    obtain ⟨c1, c2, c3, c4⟩ := hm.2.2.2.2 k (by omega)
    have hok := hm.1.2.2.2.1 k (by omega)
    have hk4 := hok.1
    have hlen := hok.2.2.2.2.2.2.2.2.1
    have eidx : (16 : Int32) * gI v + gI k = gI (16 * v + k) := by rw [gI_lit 16, gI_mul, gI_add]
    have nx : ∀ (T1 : gv_S), mX mRd T T1 → ∀ t : Bool, t = sp_cnt f (V.2.2.2 k) al → ∃ T', f_M_howMany_b216 g (f_M_howMany_b35 g fu) (some 30) (gI f) A N (gI (c + sc_cnt f V.2.2.2 al k)) (gI v) (gB al) (gI k) (gB t) (gv_ov h T1) = g (some 30) (gI f) A N (gI (c + sc_cnt f V.2.2.2 al (V.2.1 * V.2.2.1))) (gI (v + 1)) (gv_ov h T') ∧ mX mRd T T' := fun T1 q t ht => by
      obtain ⟨T', e1, e2⟩ := ih (k + 1) fu c T1 (by omega) (by omega) (hm.q q fun x y w => by unfold mRd at w; omega)
      rw [mh_216, ht, Nat.add_assoc]
      exact ⟨T', e1, q.trans e2⟩
    have o1 : (1 : Int32) = gB true := rfl
    have o0 : (0 : Int32) = gB false := rfl
    have q8 : (gI f = (8 : Int32)) = (f = 8) := gI_eq f 8 (by omega) (by decide)
    have q7 : (gI f = (7 : Int32)) = (f = 7) := gI_eq f 7 (by omega) (by decide)
    have kd : ∀ m : Nat, m < 1000 → (gI (V.2.2.2 k).1 = gI m) = ((V.2.2.2 k).1 = m) := fun m hm => gI_eq _ m (by omega) (by omega)
    rw [f_M_howMany_b35]
    dsimp only
    rw [gr_30_5, ga_33 (by omega), gr_30_6, ga_34 (by omega), hm.2.2.1, hm.2.2.2.1, gI_mul, ite_le _ _ _ _ (by omega) (by omega), if_neg (by omega), eidx, gk_let_eq]
    unfold f_M_howMany_b102 f_M_howMany_b106 f_M_howMany_b131 f_M_howMany_b211 f_M_howMany_b215
    simp only [q8, q7]
    rcases hf with rfl | rfl | rfl
    · rw [if_neg (show ¬ (6 = 8) by decide), if_neg (show ¬ (6 = 7) by decide), gr_30_7, ga_35 (by omega), c1]
      have es : sp_cnt 6 (V.2.2.2 k) al = if al = false ∨ (V.2.2.2 k).1 = 1 then decide ((V.2.2.2 k).1 = 1) else if (V.2.2.2 k).1 = 2 then nl_is (V.2.2.2 k).2.2.2 else decide ((V.2.2.2 k).1 = 0 ∨ (V.2.2.2 k).1 = 3) := by
        unfold sp_cnt
        rw [if_neg (by decide), if_neg (by decide)]
      have kd1 := kd 1 (by decide)
      have kd0 := kd 0 (by decide)
      have kd3 := kd 3 (by decide)
      have kd2 := kd 2 (by decide)
      by_cases z1 : (V.2.2.2 k).1 = 1
      · rw [if_pos (show gI (V.2.2.2 k).1 = (1 : Int32) from by rw [z1]; rfl), o1]
        exact nx T (mX.refl _ _) true (by rw [es, if_pos (Or.inr z1), decide_eq_true z1])
      · rw [if_neg (show ¬ gI (V.2.2.2 k).1 = (1 : Int32) from fun w => z1 (kd1.mp w)), ite_B]
        cases al
        · rw [if_neg (by decide), o0]
          exact nx T (mX.refl _ _) false (by rw [es, if_pos (Or.inl rfl), decide_eq_false z1])
        · have es' : sp_cnt 6 (V.2.2.2 k) true = if (V.2.2.2 k).1 = 2 then nl_is (V.2.2.2 k).2.2.2 else decide ((V.2.2.2 k).1 = 0 ∨ (V.2.2.2 k).1 = 3) := by
            rw [es, if_neg (fun w => w.elim (by decide) z1)]
          rw [if_pos rfl, gr_30_7, ga_35 (by omega), c1]
          by_cases z0 : (V.2.2.2 k).1 = 0
          · rw [if_pos (show gI (V.2.2.2 k).1 = (0 : Int32) from by rw [z0]; rfl), o1]
            exact nx T (mX.refl _ _) true (by rw [es', if_neg (by omega), decide_eq_true (Or.inl z0)])
          · rw [if_neg (show ¬ gI (V.2.2.2 k).1 = (0 : Int32) from fun w => z0 (kd0.mp w)), gr_30_7, ga_35 (by omega), c1]
            by_cases z3 : (V.2.2.2 k).1 = 3
            · rw [if_pos (show gI (V.2.2.2 k).1 = (3 : Int32) from by rw [z3]; rfl), o1]
              exact nx T (mX.refl _ _) true (by rw [es', if_neg (by omega), decide_eq_true (Or.inr z3)])
            · rw [if_neg (show ¬ gI (V.2.2.2 k).1 = (3 : Int32) from fun w => z3 (kd3.mp w)), gr_30_7, ga_35 (by omega), c1]
              by_cases z2 : (V.2.2.2 k).1 = 2
              · obtain ⟨T1, n1, n2⟩ := m_isNumC (h := h) ((hm.2.2.2.2 k (by omega)).src hok (by omega) h)
                rw [if_pos (show gI (V.2.2.2 k).1 = (2 : Int32) from by rw [z2]; rfl), gr_30_10, gr_30_9, ga_37 (by omega), c3, gI_lit 256, gI_mul, gc_30, n1, gk_ca_some, ite_B]
                cases hq : nl_is (V.2.2.2 k).2.2.2
                · rw [if_neg (by decide), o0]
                  exact nx T1 n2 false (by rw [es', if_pos z2, hq])
                · rw [if_pos rfl, o1]
                  exact nx T1 n2 true (by rw [es', if_pos z2, hq])
              · rw [if_neg (show ¬ gI (V.2.2.2 k).1 = (2 : Int32) from fun w => z2 (kd2.mp w)), o0]
                exact nx T (mX.refl _ _) false (by rw [es', if_neg z2, decide_eq_false (by omega)])
    · rw [if_neg (show ¬ (7 = 8) by decide), if_pos rfl, ite_B]
      have es : sp_cnt 7 (V.2.2.2 k) al = (al || decide ((V.2.2.2 k).1 ≠ 0)) := by
        unfold sp_cnt
        rw [if_neg (by decide), if_pos rfl]
      cases al
      · rw [if_neg (by decide), gr_30_7, ga_35 (by omega), c1, show (0 : Int32) = gI 0 from rfl, ite_le _ _ _ _ (by omega) (by decide)]
        by_cases z0 : (V.2.2.2 k).1 = 0
        · rw [if_pos (show (V.2.2.2 k).1 ≤ 0 by omega)]
          exact nx T (mX.refl _ _) false (by rw [es, decide_eq_false (fun w => w z0)]; rfl)
        · rw [if_neg (show ¬ (V.2.2.2 k).1 ≤ 0 by omega), o1]
          exact nx T (mX.refl _ _) true (by rw [es, decide_eq_true z0]; rfl)
      · rw [if_pos rfl, o1]
        exact nx T (mX.refl _ _) true (by rw [es]; rfl)
    · rw [if_pos rfl, gr_30_7, ga_35 (by omega), c1]
      have es : sp_cnt 8 (V.2.2.2 k) al = decide ((V.2.2.2 k).1 = 0 ∨ (V.2.2.2 k).1 = 2 ∧ (V.2.2.2 k).2.2.2 = []) := by
        unfold sp_cnt
        rw [if_pos rfl]
      have kd0 := kd 0 (by decide)
      have kd2 := kd 2 (by decide)
      by_cases z0 : (V.2.2.2 k).1 = 0
      · rw [if_pos (show gI (V.2.2.2 k).1 = (0 : Int32) from by rw [z0]; rfl), o1]
        exact nx T (mX.refl _ _) true (by rw [es, decide_eq_true (Or.inl z0)])
      · rw [if_neg (show ¬ gI (V.2.2.2 k).1 = (0 : Int32) from fun w => z0 (kd0.mp w)), gr_30_7, ga_35 (by omega), c1]
        by_cases z2 : (V.2.2.2 k).1 = 2
        · rw [if_pos (show gI (V.2.2.2 k).1 = (2 : Int32) from by rw [z2]; rfl), gr_30_9, ga_37 (by omega), c3]
          have kl : (gI (V.2.2.2 k).2.2.2.length = (0 : Int32)) = ((V.2.2.2 k).2.2.2.length = 0) := gI_eq _ 0 (by omega) (by decide)
          by_cases zl : (V.2.2.2 k).2.2.2.length = 0
          · rw [if_pos (show gI (V.2.2.2 k).2.2.2.length = (0 : Int32) from by rw [zl]; rfl), o1]
            exact nx T (mX.refl _ _) true (by rw [es, decide_eq_true (Or.inr ⟨z2, List.length_eq_zero_iff.mp zl⟩)])
          · rw [if_neg (show ¬ gI (V.2.2.2 k).2.2.2.length = (0 : Int32) from fun w => zl (kl.mp w)), o0]
            exact nx T (mX.refl _ _) false (by
              rw [es, decide_eq_false]
              rintro (w | ⟨w1, w2⟩)
              · exact z0 w
              · exact zl (by rw [w2]; rfl))
        · rw [if_neg (show ¬ gI (V.2.2.2 k).1 = (2 : Int32) from fun w => z2 (kd2.mp w)), o0]
          exact nx T (mX.refl _ _) false (by rw [es, decide_eq_false (fun w => w.elim z0 fun y => z2 y.1)])
theorem mh_6 (f : Nat) (hf : f = 6 ∨ f = 7 ∨ f = 8) : ∀ (r k fu : Nat) (T : gv_S), k + r = n → r < fu → mG T a vs n → ∃ T', f_M_howMany_b6 fu (some 30) (gI f) (gI a) (gI n) (gI (sg_cnt f vs k)) (gI (a + k)) (gv_ov h T) = some (gI (sg_cnt f vs n), gv_ov h T') ∧ mX mRd T T' := by
  intro r
  induction r with
  | zero =>
    intro k fu T hk hfu hm
    obtain ⟨fu, rfl⟩ : ∃ f, fu = f + 1 := ⟨fu - 1, by omega⟩
    have h16 := hm.1
    rw [f_M_howMany_b6]
    dsimp only
    rw [gI_add, ite_le _ _ _ _ (by omega) (by omega), if_pos (by omega), show k = n by omega]
    exact ⟨T, rfl, mX.refl _ _⟩
  | succ r ih =>
    intro k fu T hk hfu hm
    obtain ⟨fu, rfl⟩ : ∃ f, fu = f + 1 := ⟨fu - 1, by omega⟩
    have h16 := hm.1
    have hmk := hm.2 k (by omega)
    have hV5 : (vs k).1 ≤ 5 := by
      rcases hmk.1.2.2.2.2 with q | ⟨q, q2, q3⟩
      · omega
      · have := (hmk.1.2.2.2.1 0 (by rw [q2, q3]; decide)).1
        omega
    have key : ∀ al : Bool, al = !decide ((vs k).1 = 5) → ∃ T', f_M_howMany_b30 (f_M_howMany_b6 fu) (some 30) (gI f) (gI a) (gI n) (gI (sg_cnt f vs k)) (gI (a + k)) (gB al) (gv_ov h T) = some (gI (sg_cnt f vs n), gv_ov h T') ∧ mX mRd T T' := fun al hal => by
      obtain ⟨T1, e1, e2⟩ := mh_35 (h := h) (V := vs k) (f_M_howMany_b6 fu) f hf (gI a) (gI n) (v := a + k) (by omega) al ((vs k).2.1 * (vs k).2.2.1) 0 gk_F (sg_cnt f vs k) T (Nat.zero_add _) (by have := hmk.1.2.2.1; unfold gk_F; omega) hmk
      have hG1 : mG T1 a vs n := hm.st (e2.le fun _ _ w => mRd_st w)
      obtain ⟨T2, p1, p2⟩ := ih (k + 1) fu T1 (by omega) (by omega) hG1
      unfold f_M_howMany_b30
      have e1' : f_M_howMany_b35 (f_M_howMany_b6 fu) gk_F (some 30) (gI f) (gI a) (gI n) (gI (sg_cnt f vs k)) (gI (a + k)) (gB al) (0 : Int32) (gv_ov h T) = _ := e1
      rw [e1']
      have es : sg_cnt f vs k + sc_cnt f (vs k).2.2.2 al ((vs k).2.1 * (vs k).2.2.1) = sg_cnt f vs (k + 1) := by rw [hal]; rfl
      rw [es]
      exact ⟨T2, p1, e2.trans p2⟩
    rw [f_M_howMany_b6]
    dsimp only
    rw [gI_add, ite_le _ _ _ _ (by omega) (by omega), if_neg (by omega), gr_30_4, ga_32 (by omega), hmk.2.1, gI_lit 5, ite_le _ _ _ _ (by decide) (by omega)]
    by_cases z : 5 ≤ (vs k).1
    · rw [if_pos z]
      exact key false (by rw [decide_eq_true (show (vs k).1 = 5 by omega)]; rfl)
    · rw [if_neg z]
      exact key true (by rw [decide_eq_false (show ¬ (vs k).1 = 5 by omega)]; rfl)
theorem mo_howMany (g : mG S a vs n) (f : Nat) (hf : f = 6 ∨ f = 7 ∨ f = 8) (hn : n ≤ 8) : ∃ T', f_M_howMany (some 30) (gI f) (gI a) (gI n) (gv_ov h S) = some (gI (sg_cnt f vs n), gv_ov h T') ∧ mX mRd S T' :=
  mh_6 (h := h) f hf n 0 gk_F S (Nat.zero_add _) (by unfold gk_F; omega) g
/-- cells gathered: the row stays told, whatever happens -/
theorem m_cells {v : Nat} (hv : v < 16) : ∀ (m k fu : Nat) (S : gv_S) (f : Nat) (r : List UInt64), mv S v V → k + m = V.2.1 * V.2.2.1 → m < fu → f ≤ 8 → S.1 30 11 = gI f → mR S r → r.length ≤ k → (∀ y ∈ r, fd_n y) → (f = 0 → r = sc_row V.2.2.2 k) → f = sc_err V.2.2.2 k → ∃ S' r', f_M_wantCells_b2 fu (some 30) (gI v) (gI k) (gv_ov h S) = some ((), gv_ov h S') ∧ mX mQR S S' ∧ S'.1 30 11 = gI (sc_err V.2.2.2 (V.2.1 * V.2.2.1)) ∧ mR S' r' ∧ r'.length ≤ 16 ∧ (∀ y ∈ r', fd_n y) ∧ (sc_err V.2.2.2 (V.2.1 * V.2.2.1) = 0 → r' = sc_row V.2.2.2 (V.2.1 * V.2.2.1)) := by
  have late : ∀ (cs : Nat → gp_C) (m k : Nat), sc_err cs k ≠ 0 → sc_err cs (k + m) = sc_err cs k := by
    intro cs m
    induction m with
    | zero => intro k _; rfl
    | succ m ih =>
      intro k hk
      show bl (sc_err cs (k + m)) _ = _
      rw [ih k hk, bl_p hk]
  intro m
  induction m with
  | zero =>
    intro k fu S f r hm hk hf hf8 hb hr hrl hrn hrr he
    obtain ⟨fu, rfl⟩ : ∃ f, fu = f + 1 := ⟨fu - 1, by omega⟩
    obtain ⟨m0, m1, m2, m3, m4⟩ := hm
    have h16 := m0.2.2.1
    rw [f_M_wantCells_b2]
    dsimp only
    unfold f_M_wantCells_b80
    have hle : V.2.1 * V.2.2.1 ≤ k := by omega
    simp (disch := (first | omega | assumption | exact fd_0_n | exact fd_53_n | exact fd_m53_n)) only [↓gg_30_0, ↓gs_30_0, ↓gg_30_1, ↓gs_30_1, ↓gg_30_3, ↓gs_30_3, ↓gg_30_11, ↓gs_30_11, ↓gg_30_12, ↓gs_30_12, ↓gg_30_16, ↓gs_30_16, ↓gg_30_17, ↓gs_30_17, ↓gg_30_18, ↓gs_30_18, ↓gg_30_19, ↓gs_30_19, ↓gg_30_20, ↓gs_30_20, ↓gg_30_21, ↓gs_30_21, ↓gg_30_22, ↓gs_30_22, ↓gg_30_23, ↓gs_30_23, ↓gg_30_24, ↓gs_30_24, ↓gr_30_2, ↓gr_30_4, ↓gr_30_5, ↓gr_30_6, ↓gr_30_7, ↓gr_30_8, ↓gr_30_9, ↓gr_30_10, ↓gr_30_13, ↓gr_30_14, ↓gr_30_15, ↓gc_30, ↓ga_31, ↓gt_31, ↓gl_31, ↓ga_32, ↓gt_32, ↓gl_32, ↓ga_33, ↓gt_33, ↓gl_33, ↓ga_34, ↓gt_34, ↓gl_34, ↓ga_35, ↓gt_35, ↓gl_35, ↓ga_36, ↓gt_36, ↓gl_36, ↓ga_37, ↓gt_37, ↓gl_37, ↓ga_38, ↓gt_38, ↓gl_38, ↓ga_39, ↓gt_39, ↓gl_39, ↓ga_40, ↓gt_40, ↓gl_40, ↓ga_41, ↓gt_41, ↓gl_41, ↓gk_let_eq, ↓gk_ca_some, ↓Option.bind_some, gIl_0, gIl_1, gIl_2, gIl_3, gIl_4, gIl_5, gIl_6, gIl_7, gIl_8, gIl_9, gIl_10, gIl_11, gIl_12, gIl_13, gIl_14, gIl_15, gIl_16, gIl_17, gIl_18, gIl_19, gIl_20, gIl_21, gIl_22, gIl_23, gIl_24, gIl_25, gIl_26, gIl_27, gIl_28, gIl_29, gIl_30, gIl_31, gIl_32, gIl_33, gIl_34, gIl_35, gIl_36, gIl_37, gIl_38, gIl_39, gIl_40, gIl_41, gIl_42, gIl_43, gIl_44, gIl_45, gIl_46, gIl_47, gIl_48, gIl_49, gIl_50, gIl_51, gIl_52, gIl_53, gIl_54, gIl_55, gIl_56, gIl_57, gIl_58, gIl_59, gIl_60, gIl_61, gIl_62, gIl_63, gIl_64, gIl_65, gIl_66, gIl_67, gIl_68, gIl_69, gIl_70, gIl_71, gIl_72, gIl_73, gIl_74, gIl_75, gIl_76, gIl_77, gIl_78, gIl_79, gIl_80, gIl_81, gIl_82, gIl_83, gIl_84, gIl_85, gIl_86, gIl_87, gIl_88, gIl_89, gIl_90, gIl_91, gIl_92, gIl_97, gIl_99, gIl_100, gIl_122, gIl_126, gIl_255, gIl_256, gIl_365, gIl_400, gIl_460, gIl_1900, gIl_3600, gIl_4096, gIl_32767, gIl_65536, gIl_86400, gI_add, gI_mul, gI_sub, ite_le, ite_lt, ite_eq, gI_le, gI_lt, gI_eq, gu_I1, gu_I2, gu_I3, gu_I4, gu_D1, gu_D2, gu_D3, gu_D4, fj_lt, fj_le, fj_gt, fj_ge, fj_eq, ju_lt, ju_le, ju_gt, ju_ge, ju_eq, if_true, if_false, m2, m3, hle]
    have hkk : k = V.2.1 * V.2.2.1 := by omega
    rw [← hkk]
    exact ⟨S, r, rfl, mX.refl _ _, by rw [← he]; exact hb, hr, by omega, hrn, fun z => hrr (by omega)⟩
  | succ m ih =>
    intro k fu S f r hm hk hf hf8 hb hr hrl hrn hrr he
    obtain ⟨fu, rfl⟩ : ∃ f, fu = f + 1 := ⟨fu - 1, by omega⟩
    obtain ⟨m0, m1, m2, m3, m4⟩ := id hm
    have h16 := m0.2.2.1
    obtain ⟨c1, c2, c3, c4⟩ := m4 k (by omega)
    have hok := m0.2.2.2.1 k (by omega)
    have hk4 := hok.1
    rw [f_M_wantCells_b2]
    dsimp only
    unfold f_M_wantCells_b80
    have hle : ¬ V.2.1 * V.2.2.1 ≤ k := by omega
    by_cases z : f = 0
    · subst z
      have hnx : sc_err V.2.2.2 (k + 1) = sp_err (V.2.2.2 k) := by
        show bl (sc_err V.2.2.2 k) _ = _
        rw [← he, bl_n]
      by_cases e4 : (V.2.2.2 k).1 = 4
      · have hmd : md (V.2.2.2 k) = FP.i2d (gI (V.2.2.2 k).2.1) := by unfold md; rw [if_neg (by omega)]
        have c1' : (gv_uI S 30 11 (gI (V.2.2.2 k).2.1)).1 35 (16 * v + k) = gI (V.2.2.2 k).1 := c1
        have hcd := hok.2.2.2.2.2.1 e4
        have n41 : ¬ ((V.2.2.2 k).1 = 1) := by omega
        have hse : sp_err (V.2.2.2 k) = (V.2.2.2 k).2.1 := by unfold sp_err; rw [if_pos e4]
        unfold f_M_wantCells_b54 f_M_wantCells_b74
        have hz00 : (gI 0 = gI 0) = True := eq_self _
        simp (disch := (first | omega | assumption | exact fd_0_n | exact fd_53_n | exact fd_m53_n)) only [↓gg_30_0, ↓gs_30_0, ↓gg_30_1, ↓gs_30_1, ↓gg_30_3, ↓gs_30_3, ↓gg_30_11, ↓gs_30_11, ↓gg_30_12, ↓gs_30_12, ↓gg_30_16, ↓gs_30_16, ↓gg_30_17, ↓gs_30_17, ↓gg_30_18, ↓gs_30_18, ↓gg_30_19, ↓gs_30_19, ↓gg_30_20, ↓gs_30_20, ↓gg_30_21, ↓gs_30_21, ↓gg_30_22, ↓gs_30_22, ↓gg_30_23, ↓gs_30_23, ↓gg_30_24, ↓gs_30_24, ↓gr_30_2, ↓gr_30_4, ↓gr_30_5, ↓gr_30_6, ↓gr_30_7, ↓gr_30_8, ↓gr_30_9, ↓gr_30_10, ↓gr_30_13, ↓gr_30_14, ↓gr_30_15, ↓gc_30, ↓ga_31, ↓gt_31, ↓gl_31, ↓ga_32, ↓gt_32, ↓gl_32, ↓ga_33, ↓gt_33, ↓gl_33, ↓ga_34, ↓gt_34, ↓gl_34, ↓ga_35, ↓gt_35, ↓gl_35, ↓ga_36, ↓gt_36, ↓gl_36, ↓ga_37, ↓gt_37, ↓gl_37, ↓ga_38, ↓gt_38, ↓gl_38, ↓ga_39, ↓gt_39, ↓gl_39, ↓ga_40, ↓gt_40, ↓gl_40, ↓ga_41, ↓gt_41, ↓gl_41, ↓gk_let_eq, ↓gk_ca_some, ↓Option.bind_some, gIl_0, gIl_1, gIl_2, gIl_3, gIl_4, gIl_5, gIl_6, gIl_7, gIl_8, gIl_9, gIl_10, gIl_11, gIl_12, gIl_13, gIl_14, gIl_15, gIl_16, gIl_17, gIl_18, gIl_19, gIl_20, gIl_21, gIl_22, gIl_23, gIl_24, gIl_25, gIl_26, gIl_27, gIl_28, gIl_29, gIl_30, gIl_31, gIl_32, gIl_33, gIl_34, gIl_35, gIl_36, gIl_37, gIl_38, gIl_39, gIl_40, gIl_41, gIl_42, gIl_43, gIl_44, gIl_45, gIl_46, gIl_47, gIl_48, gIl_49, gIl_50, gIl_51, gIl_52, gIl_53, gIl_54, gIl_55, gIl_56, gIl_57, gIl_58, gIl_59, gIl_60, gIl_61, gIl_62, gIl_63, gIl_64, gIl_65, gIl_66, gIl_67, gIl_68, gIl_69, gIl_70, gIl_71, gIl_72, gIl_73, gIl_74, gIl_75, gIl_76, gIl_77, gIl_78, gIl_79, gIl_80, gIl_81, gIl_82, gIl_83, gIl_84, gIl_85, gIl_86, gIl_87, gIl_88, gIl_89, gIl_90, gIl_91, gIl_92, gIl_97, gIl_99, gIl_100, gIl_122, gIl_126, gIl_255, gIl_256, gIl_365, gIl_400, gIl_460, gIl_1900, gIl_3600, gIl_4096, gIl_32767, gIl_65536, gIl_86400, gI_add, gI_mul, gI_sub, ite_le, ite_lt, ite_eq, gI_le, gI_lt, gI_eq, gu_I1, gu_I2, gu_I3, gu_I4, gu_D1, gu_D2, gu_D3, gu_D4, fj_lt, fj_le, fj_gt, fj_ge, fj_eq, ju_lt, ju_le, ju_gt, ju_ge, ju_eq, if_true, if_false, m2, m3, hle, hb, hz00, c1, c1', c2, hmd, d2i_i2d', m_fail 0 _ hb (by decide), bl_n, e4, n41]
        have e1 : ¬ (4 = 1) := by decide
        simp (disch := (first | omega | assumption | exact fd_0_n | exact fd_53_n | exact fd_m53_n)) only [e1, if_false]
        have hs1 : (gv_uI S 30 11 (gI (V.2.2.2 k).2.1)).1 30 11 = gI (V.2.2.2 k).2.1 := gu_I2 _ _ _ _
        obtain ⟨S', r', s1, s3, s4, s5⟩ := ih (k + 1) fu (gv_uI S 30 11 (gI (V.2.2.2 k).2.1)) (V.2.2.2 k).2.1 r (hm.X (mX.I (P := mB) _ ⟨rfl, rfl⟩) fun a b q => by unfold mB at q; omega) (by omega) (by omega) (by omega) hs1 (hr.q (mX.I _ ⟨rfl, Or.inl rfl⟩)) (by omega) hrn (fun q => by omega) (by rw [hnx, hse])
        exact ⟨S', r', s1, (mX.I _ (Or.inl ⟨rfl, Or.inl rfl⟩)).trans s3, s4, s5⟩
      · have hse : sp_err (V.2.2.2 k) = 0 := by unfold sp_err; rw [if_neg e4]
        have hz00 : (gI 0 = gI 0) = True := eq_self _
        have erow : sc_row V.2.2.2 (k + 1) = sc_row V.2.2.2 k ++ (if (V.2.2.2 k).1 = 1 then [(V.2.2.2 k).2.2.1] else []) := rfl
        unfold f_M_wantCells_b54 f_M_wantCells_b74
        by_cases e1 : (V.2.2.2 k).1 = 1
        · have hmd : md (V.2.2.2 k) = (V.2.2.2 k).2.2.1 := if_pos e1
          have hg := m_gather (h := h) (V.2.2.2 k).2.2.1 hr (by omega)
          simp (disch := (first | omega | assumption | exact fd_0_n | exact fd_53_n | exact fd_m53_n)) only [↓gg_30_0, ↓gs_30_0, ↓gg_30_1, ↓gs_30_1, ↓gg_30_3, ↓gs_30_3, ↓gg_30_11, ↓gs_30_11, ↓gg_30_12, ↓gs_30_12, ↓gg_30_16, ↓gs_30_16, ↓gg_30_17, ↓gs_30_17, ↓gg_30_18, ↓gs_30_18, ↓gg_30_19, ↓gs_30_19, ↓gg_30_20, ↓gs_30_20, ↓gg_30_21, ↓gs_30_21, ↓gg_30_22, ↓gs_30_22, ↓gg_30_23, ↓gs_30_23, ↓gg_30_24, ↓gs_30_24, ↓gr_30_2, ↓gr_30_4, ↓gr_30_5, ↓gr_30_6, ↓gr_30_7, ↓gr_30_8, ↓gr_30_9, ↓gr_30_10, ↓gr_30_13, ↓gr_30_14, ↓gr_30_15, ↓gc_30, ↓ga_31, ↓gt_31, ↓gl_31, ↓ga_32, ↓gt_32, ↓gl_32, ↓ga_33, ↓gt_33, ↓gl_33, ↓ga_34, ↓gt_34, ↓gl_34, ↓ga_35, ↓gt_35, ↓gl_35, ↓ga_36, ↓gt_36, ↓gl_36, ↓ga_37, ↓gt_37, ↓gl_37, ↓ga_38, ↓gt_38, ↓gl_38, ↓ga_39, ↓gt_39, ↓gl_39, ↓ga_40, ↓gt_40, ↓gl_40, ↓ga_41, ↓gt_41, ↓gl_41, ↓gk_let_eq, ↓gk_ca_some, ↓Option.bind_some, gIl_0, gIl_1, gIl_2, gIl_3, gIl_4, gIl_5, gIl_6, gIl_7, gIl_8, gIl_9, gIl_10, gIl_11, gIl_12, gIl_13, gIl_14, gIl_15, gIl_16, gIl_17, gIl_18, gIl_19, gIl_20, gIl_21, gIl_22, gIl_23, gIl_24, gIl_25, gIl_26, gIl_27, gIl_28, gIl_29, gIl_30, gIl_31, gIl_32, gIl_33, gIl_34, gIl_35, gIl_36, gIl_37, gIl_38, gIl_39, gIl_40, gIl_41, gIl_42, gIl_43, gIl_44, gIl_45, gIl_46, gIl_47, gIl_48, gIl_49, gIl_50, gIl_51, gIl_52, gIl_53, gIl_54, gIl_55, gIl_56, gIl_57, gIl_58, gIl_59, gIl_60, gIl_61, gIl_62, gIl_63, gIl_64, gIl_65, gIl_66, gIl_67, gIl_68, gIl_69, gIl_70, gIl_71, gIl_72, gIl_73, gIl_74, gIl_75, gIl_76, gIl_77, gIl_78, gIl_79, gIl_80, gIl_81, gIl_82, gIl_83, gIl_84, gIl_85, gIl_86, gIl_87, gIl_88, gIl_89, gIl_90, gIl_91, gIl_92, gIl_97, gIl_99, gIl_100, gIl_122, gIl_126, gIl_255, gIl_256, gIl_365, gIl_400, gIl_460, gIl_1900, gIl_3600, gIl_4096, gIl_32767, gIl_65536, gIl_86400, gI_add, gI_mul, gI_sub, ite_le, ite_lt, ite_eq, gI_le, gI_lt, gI_eq, gu_I1, gu_I2, gu_I3, gu_I4, gu_D1, gu_D2, gu_D3, gu_D4, fj_lt, fj_le, fj_gt, fj_ge, fj_eq, ju_lt, ju_le, ju_gt, ju_ge, ju_eq, if_true, if_false, m2, m3, hle, hb, hz00, c1, c2, hmd, e4, hg, e1]
          have e14 : ¬ (1 = 4) := by decide
          simp (disch := (first | omega | assumption | exact fd_0_n | exact fd_53_n | exact fd_m53_n)) only [e14, if_false, ↓gg_30_0, ↓gs_30_0, ↓gg_30_1, ↓gs_30_1, ↓gg_30_3, ↓gs_30_3, ↓gg_30_11, ↓gs_30_11, ↓gg_30_12, ↓gs_30_12, ↓gg_30_16, ↓gs_30_16, ↓gg_30_17, ↓gs_30_17, ↓gg_30_18, ↓gs_30_18, ↓gg_30_19, ↓gs_30_19, ↓gg_30_20, ↓gs_30_20, ↓gg_30_21, ↓gs_30_21, ↓gg_30_22, ↓gs_30_22, ↓gg_30_23, ↓gs_30_23, ↓gg_30_24, ↓gs_30_24, ↓gr_30_2, ↓gr_30_4, ↓gr_30_5, ↓gr_30_6, ↓gr_30_7, ↓gr_30_8, ↓gr_30_9, ↓gr_30_10, ↓gr_30_13, ↓gr_30_14, ↓gr_30_15, ↓gc_30, ↓ga_31, ↓gt_31, ↓gl_31, ↓ga_32, ↓gt_32, ↓gl_32, ↓ga_33, ↓gt_33, ↓gl_33, ↓ga_34, ↓gt_34, ↓gl_34, ↓ga_35, ↓gt_35, ↓gl_35, ↓ga_36, ↓gt_36, ↓gl_36, ↓ga_37, ↓gt_37, ↓gl_37, ↓ga_38, ↓gt_38, ↓gl_38, ↓ga_39, ↓gt_39, ↓gl_39, ↓ga_40, ↓gt_40, ↓gl_40, ↓ga_41, ↓gt_41, ↓gl_41, ↓gk_let_eq, ↓gk_ca_some, ↓Option.bind_some, hg]
          have hX : mX mRw S (gM S (r ++ [(V.2.2.2 k).2.2.1])) := gM_X _ _
          obtain ⟨S', r', s1, s3, s4, s5⟩ := ih (k + 1) fu _ 0 (r ++ [(V.2.2.2 k).2.2.1]) (hm.X hX fun a b q => by unfold mRw at q; omega) (by omega) (by omega) (by omega) (by rw [gM_i _ _ _ _ (by decide)]; exact hb) (gM_mR _ _) (by rw [List.length_append, List.length_singleton]; omega) (fun y hy => by
            rcases List.mem_append.mp hy with q | q
            · exact hrn y q
            · rw [List.mem_singleton.mp q]
              exact hok.2.1.n) (fun _ => by rw [erow, if_pos e1, hrr rfl]) (by rw [hnx, hse])
          exact ⟨S', r', s1, (hX.le fun a b q => Or.inr q).trans s3, s4, s5⟩
        · simp (disch := (first | omega | assumption | exact fd_0_n | exact fd_53_n | exact fd_m53_n)) only [↓gg_30_0, ↓gs_30_0, ↓gg_30_1, ↓gs_30_1, ↓gg_30_3, ↓gs_30_3, ↓gg_30_11, ↓gs_30_11, ↓gg_30_12, ↓gs_30_12, ↓gg_30_16, ↓gs_30_16, ↓gg_30_17, ↓gs_30_17, ↓gg_30_18, ↓gs_30_18, ↓gg_30_19, ↓gs_30_19, ↓gg_30_20, ↓gs_30_20, ↓gg_30_21, ↓gs_30_21, ↓gg_30_22, ↓gs_30_22, ↓gg_30_23, ↓gs_30_23, ↓gg_30_24, ↓gs_30_24, ↓gr_30_2, ↓gr_30_4, ↓gr_30_5, ↓gr_30_6, ↓gr_30_7, ↓gr_30_8, ↓gr_30_9, ↓gr_30_10, ↓gr_30_13, ↓gr_30_14, ↓gr_30_15, ↓gc_30, ↓ga_31, ↓gt_31, ↓gl_31, ↓ga_32, ↓gt_32, ↓gl_32, ↓ga_33, ↓gt_33, ↓gl_33, ↓ga_34, ↓gt_34, ↓gl_34, ↓ga_35, ↓gt_35, ↓gl_35, ↓ga_36, ↓gt_36, ↓gl_36, ↓ga_37, ↓gt_37, ↓gl_37, ↓ga_38, ↓gt_38, ↓gl_38, ↓ga_39, ↓gt_39, ↓gl_39, ↓ga_40, ↓gt_40, ↓gl_40, ↓ga_41, ↓gt_41, ↓gl_41, ↓gk_let_eq, ↓gk_ca_some, ↓Option.bind_some, gIl_0, gIl_1, gIl_2, gIl_3, gIl_4, gIl_5, gIl_6, gIl_7, gIl_8, gIl_9, gIl_10, gIl_11, gIl_12, gIl_13, gIl_14, gIl_15, gIl_16, gIl_17, gIl_18, gIl_19, gIl_20, gIl_21, gIl_22, gIl_23, gIl_24, gIl_25, gIl_26, gIl_27, gIl_28, gIl_29, gIl_30, gIl_31, gIl_32, gIl_33, gIl_34, gIl_35, gIl_36, gIl_37, gIl_38, gIl_39, gIl_40, gIl_41, gIl_42, gIl_43, gIl_44, gIl_45, gIl_46, gIl_47, gIl_48, gIl_49, gIl_50, gIl_51, gIl_52, gIl_53, gIl_54, gIl_55, gIl_56, gIl_57, gIl_58, gIl_59, gIl_60, gIl_61, gIl_62, gIl_63, gIl_64, gIl_65, gIl_66, gIl_67, gIl_68, gIl_69, gIl_70, gIl_71, gIl_72, gIl_73, gIl_74, gIl_75, gIl_76, gIl_77, gIl_78, gIl_79, gIl_80, gIl_81, gIl_82, gIl_83, gIl_84, gIl_85, gIl_86, gIl_87, gIl_88, gIl_89, gIl_90, gIl_91, gIl_92, gIl_97, gIl_99, gIl_100, gIl_122, gIl_126, gIl_255, gIl_256, gIl_365, gIl_400, gIl_460, gIl_1900, gIl_3600, gIl_4096, gIl_32767, gIl_65536, gIl_86400, gI_add, gI_mul, gI_sub, ite_le, ite_lt, ite_eq, gI_le, gI_lt, gI_eq, gu_I1, gu_I2, gu_I3, gu_I4, gu_D1, gu_D2, gu_D3, gu_D4, fj_lt, fj_le, fj_gt, fj_ge, fj_eq, ju_lt, ju_le, ju_gt, ju_ge, ju_eq, if_true, if_false, m2, m3, hle, hb, hz00, c1, c2, e4, e1]
          obtain ⟨S', r', s1, s3, s4, s5⟩ := ih (k + 1) fu S 0 r hm (by omega) (by omega) (by omega) hb hr (by omega) hrn (fun _ => by rw [erow, if_neg e1, List.append_nil, hrr rfl]) (by rw [hnx, hse])
          exact ⟨S', r', s1, s3, s4, s5⟩
    · simp (disch := (first | omega | assumption | exact fd_0_n | exact fd_53_n | exact fd_m53_n)) only [↓gg_30_0, ↓gs_30_0, ↓gg_30_1, ↓gs_30_1, ↓gg_30_3, ↓gs_30_3, ↓gg_30_11, ↓gs_30_11, ↓gg_30_12, ↓gs_30_12, ↓gg_30_16, ↓gs_30_16, ↓gg_30_17, ↓gs_30_17, ↓gg_30_18, ↓gs_30_18, ↓gg_30_19, ↓gs_30_19, ↓gg_30_20, ↓gs_30_20, ↓gg_30_21, ↓gs_30_21, ↓gg_30_22, ↓gs_30_22, ↓gg_30_23, ↓gs_30_23, ↓gg_30_24, ↓gs_30_24, ↓gr_30_2, ↓gr_30_4, ↓gr_30_5, ↓gr_30_6, ↓gr_30_7, ↓gr_30_8, ↓gr_30_9, ↓gr_30_10, ↓gr_30_13, ↓gr_30_14, ↓gr_30_15, ↓gc_30, ↓ga_31, ↓gt_31, ↓gl_31, ↓ga_32, ↓gt_32, ↓gl_32, ↓ga_33, ↓gt_33, ↓gl_33, ↓ga_34, ↓gt_34, ↓gl_34, ↓ga_35, ↓gt_35, ↓gl_35, ↓ga_36, ↓gt_36, ↓gl_36, ↓ga_37, ↓gt_37, ↓gl_37, ↓ga_38, ↓gt_38, ↓gl_38, ↓ga_39, ↓gt_39, ↓gl_39, ↓ga_40, ↓gt_40, ↓gl_40, ↓ga_41, ↓gt_41, ↓gl_41, ↓gk_let_eq, ↓gk_ca_some, ↓Option.bind_some, gIl_0, gIl_1, gIl_2, gIl_3, gIl_4, gIl_5, gIl_6, gIl_7, gIl_8, gIl_9, gIl_10, gIl_11, gIl_12, gIl_13, gIl_14, gIl_15, gIl_16, gIl_17, gIl_18, gIl_19, gIl_20, gIl_21, gIl_22, gIl_23, gIl_24, gIl_25, gIl_26, gIl_27, gIl_28, gIl_29, gIl_30, gIl_31, gIl_32, gIl_33, gIl_34, gIl_35, gIl_36, gIl_37, gIl_38, gIl_39, gIl_40, gIl_41, gIl_42, gIl_43, gIl_44, gIl_45, gIl_46, gIl_47, gIl_48, gIl_49, gIl_50, gIl_51, gIl_52, gIl_53, gIl_54, gIl_55, gIl_56, gIl_57, gIl_58, gIl_59, gIl_60, gIl_61, gIl_62, gIl_63, gIl_64, gIl_65, gIl_66, gIl_67, gIl_68, gIl_69, gIl_70, gIl_71, gIl_72, gIl_73, gIl_74, gIl_75, gIl_76, gIl_77, gIl_78, gIl_79, gIl_80, gIl_81, gIl_82, gIl_83, gIl_84, gIl_85, gIl_86, gIl_87, gIl_88, gIl_89, gIl_90, gIl_91, gIl_92, gIl_97, gIl_99, gIl_100, gIl_122, gIl_126, gIl_255, gIl_256, gIl_365, gIl_400, gIl_460, gIl_1900, gIl_3600, gIl_4096, gIl_32767, gIl_65536, gIl_86400, gI_add, gI_mul, gI_sub, ite_le, ite_lt, ite_eq, gI_le, gI_lt, gI_eq, gu_I1, gu_I2, gu_I3, gu_I4, gu_D1, gu_D2, gu_D3, gu_D4, fj_lt, fj_le, fj_gt, fj_ge, fj_eq, ju_lt, ju_le, ju_gt, ju_ge, ju_eq, if_true, if_false, m2, m3, hle, hb, z]
      have hlt := late V.2.2.2 (m + 1) k (by omega)
      rw [hk] at hlt
      rw [hlt]
      exact ⟨S, r, rfl, mX.refl _ _, by rw [← he]; exact hb, hr, by omega, hrn, fun q => by omega⟩
theorem m_cells0 {v : Nat} (hm : mv S v V) (hv : v < 16) (hb : S.1 30 11 = gI 0) (hr : mR S []) : ∃ S' r', f_M_wantCells (some 30) (gI v) (gv_ov h S) = some ((), gv_ov h S') ∧ mX mQR S S' ∧ S'.1 30 11 = gI (sc_err V.2.2.2 (cellsN V)) ∧ mR S' r' ∧ r'.length ≤ 16 ∧ (∀ y ∈ r', fd_n y) ∧ (sc_err V.2.2.2 (cellsN V) = 0 → r' = sc_row V.2.2.2 (cellsN V)) :=
  m_cells (h := h) hv (V.2.1 * V.2.2.1) 0 gk_F S 0 [] hm (Nat.zero_add _) (by have := hm.1.2.2.1; unfold gk_F; omega) (by decide) hb hr (by decide) (fun y hy => absurd hy List.not_mem_nil) (fun _ => rfl) rfl
/-- cells wanted where something is bad already -/
theorem m_cellsE {v e : Nat} (hm : mv S v V) (hv : v < 16) (hb : S.1 30 11 = gI e) (he : e ≤ 8) (h0 : e ≠ 0) : f_M_wantCells (some 30) (gI v) (gv_ov h S) = some ((), gv_ov h S) := by
  have h16 := hm.1.2.2.1
  have e1 : f_M_wantCells_b2 (999999 + 1) (some 30) (gI v) (gI 0) (gv_ov h S) = some ((), gv_ov h S) := by
    rw [f_M_wantCells_b2]
    dsimp only
    unfold f_M_wantCells_b80
    rw [gr_30_5, ga_33 (by omega), gr_30_6, ga_34 (by omega), hm.2.2.1, hm.2.2.2.1, gI_mul, ite_le _ _ _ _ (by omega) (by omega), gg_30_11, hb, ite0 _ he, if_neg h0]
    split <;> rfl
  exact e1
end MHO
