/-! THE PURE PART: the reference's choices and kinds (35 to 55) -/
section MCHO
variable {h : gk_H} {S S0 S1 : gv_S} {a n f : Nat} {vs : Nat → gp_V} {V : gp_V}
theorem mVl_st {x y : Nat} (z : mVl 16 x y) : mSt x y := by
  unfold mVl at z
  unfold mSt
  omega
theorem mF.copy {v : Nat} (hm : mv S v V) (hv : v < 16) (q : mX mSt S0 S) (hb : S.1 30 11 = gI 0) : mF h S0 (f_M_copyValue (some 30) (gI v) (16 : Int32) (gv_ov h S)) V := by
  obtain ⟨T, e1, e2, e3⟩ := m_copyV (h := h) (t := 16) hm (by omega) (Nat.le_refl _) (by omega)
  have e1' : f_M_copyValue (some 30) (gI v) (16 : Int32) (gv_ov h S) = _ := e1
  rw [e1']
  exact mF.val (q.trans (e2.le fun _ _ z => mVl_st z)) (by
    rw [e2.i (fun w => by unfold mVl at w; omega)]
    exact hb) e3
/-- cells counted -/
theorem mlo_64 (g : Option Nat → Int32 → Int32 → Int32 → Int32 → Int32 → Int32 → gk_H → Option (Unit × gk_H)) (F A N : Int32) {v : Nat} (hv : v < 16) (fo0 tr0 : Nat) : ∀ (r k fu fo tr : Nat) (T : gv_S), k + r = cellsN V → r + 1 < fu → mv T v V → T.1 30 11 = gI 0 → sc_err V.2.2.2 k = 0 → fo = fo0 + sc_tru V.2.2.2 false k → tr = tr0 + sc_tru V.2.2.2 true k → ∃ T' fo' tr', f_M_logic_b64 g fu (some 30) F A N (gI fo) (gI tr) (gI v) (gI k) (gv_ov h T) = f_M_logic_b203 g (some 30) F A N (gI fo') (gI tr') (gI v) (gv_ov h T') ∧ mX mB T T' ∧ T'.1 30 11 = gI (sc_err V.2.2.2 (cellsN V)) ∧ (sc_err V.2.2.2 (cellsN V) = 0 → fo' = fo0 + sc_tru V.2.2.2 false (cellsN V) ∧ tr' = tr0 + sc_tru V.2.2.2 true (cellsN V)) ∧ fo' ≤ fo0 + 16 ∧ tr' ≤ tr0 + 16 := by
  have late : ∀ (cs : Nat → gp_C) (m k : Nat), sc_err cs k ≠ 0 → sc_err cs (k + m) = sc_err cs k := by
    intro cs m
    induction m with
    | zero => intro k _; rfl
    | succ m ih =>
      intro k hk
      show bl (sc_err cs (k + m)) _ = _
      rw [ih k hk, bl_p hk]
  have ec : cellsN V = V.2.1 * V.2.2.1 := rfl
  intro r
  induction r with
  | zero =>
    intro k fu fo tr T hk hfu hm hb he hfo htr
    obtain ⟨fu, rfl⟩ : ∃ g, fu = g + 1 := ⟨fu - 1, by omega⟩
    have h16 := hm.1.2.2.1
    have t1 := sc_tru_le V.2.2.2 false k
    have t2 := sc_tru_le V.2.2.2 true k
    rw [f_M_logic_b64]
    dsimp only
    rw [gr_30_5, ga_33 (by omega), gr_30_6, ga_34 (by omega), hm.2.2.1, hm.2.2.2.1, gI_mul, ite_le _ _ _ _ (by omega) (by omega), if_pos (by omega)]
    rw [show cellsN V = k by omega, he]
    exact ⟨T, fo, tr, rfl, mX.refl _ _, hb, fun _ => ⟨hfo, htr⟩, by omega, by omega⟩
  | succ r ih =>
    intro k fu fo tr T hk hfu hm hb he hfo htr
    obtain ⟨fu, rfl⟩ : ∃ g, fu = g + 1 + 1 := ⟨fu - 2, by omega⟩
    have h16 := hm.1.2.2.1
    have t1 := sc_tru_le V.2.2.2 false k
    have t2 := sc_tru_le V.2.2.2 true k
    have hcell := hm.2.2.2.2 k (by omega)
    have hok := hm.1.2.2.2.1 k (by omega)
    have hk4 := hok.1
    have kd : ∀ m : Nat, m < 1000 → (gI (V.2.2.2 k).1 = gI m) = ((V.2.2.2 k).1 = m) := fun m hm => gI_eq _ m (by omega) (by omega)
    have k4 := kd 4 (by decide)
    have k1 := kd 1 (by decide)
    have k3 := kd 3 (by decide)
    have eE : sc_err V.2.2.2 (k + 1) = sp_err (V.2.2.2 k) := by
      show bl (sc_err V.2.2.2 k) _ = _
      rw [he, bl_n]
    have ef : sc_tru V.2.2.2 false (k + 1) = sc_tru V.2.2.2 false k + if ((V.2.2.2 k).1 = 1 ∨ (V.2.2.2 k).1 = 3) then 1 else 0 := by
      show sc_tru V.2.2.2 false k + (if _ then _ else _) = _
      simp
    have et : sc_tru V.2.2.2 true (k + 1) = sc_tru V.2.2.2 true k + if ((V.2.2.2 k).1 = 1 ∨ (V.2.2.2 k).1 = 3) ∧ (fd_k (V.2.2.2 k).2.2.1 ≠ 0 ∨ (V.2.2.2 k).2.1 ≠ 0) then 1 else 0 := by
      show sc_tru V.2.2.2 true k + (if _ then _ else _) = _
      simp
    rw [f_M_logic_b64]
    dsimp only
    rw [gr_30_5, ga_33 (by omega), gr_30_6, ga_34 (by omega), hm.2.2.1, hm.2.2.2.1, gI_mul, ite_le _ _ _ _ (by omega) (by omega), if_neg (by omega), gg_30_11, hb, ite0 0 (by decide), if_pos rfl, gI_lit 16, gI_mul, gI_add, gk_let_eq, gr_30_7, ga_35 (by omega), hcell.1]
    unfold f_M_logic_b124 f_M_logic_b146 f_M_logic_b151 f_M_logic_b167 f_M_logic_b193 f_M_logic_b195
    by_cases z4 : (V.2.2.2 k).1 = 4
    · have emd : md (V.2.2.2 k) = FP.i2d (gI (V.2.2.2 k).2.1) := if_neg (by omega)
      have hcd := hok.2.2.2.2.2.1 z4
      have es : sp_err (V.2.2.2 k) = (V.2.2.2 k).2.1 := if_pos z4
      have hc1 : (gv_uI T 30 11 (gI (V.2.2.2 k).2.1)).1 35 (16 * v + k) = gI (V.2.2.2 k).1 := hcell.1
      have hm1 : mv (gv_uI T 30 11 (gI (V.2.2.2 k).2.1)) v V := hm.st (mX.I _ (mB_st ⟨rfl, rfl⟩)) hv
      rw [if_pos (show gI (V.2.2.2 k).1 = (4 : Int32) from k4.mpr z4), gr_30_8, ga_36 (by omega), hcell.2.1, emd, d2i_i2d', gc_30, m_fail 0 _ hb (by decide), gk_ca_some, bl_n, gr_30_7, ga_35 (by omega), hc1, if_neg (show ¬ gI (V.2.2.2 k).1 = (1 : Int32) from fun w => by have := k1.mp w; omega), gr_30_7, ga_35 (by omega), hc1, if_neg (show ¬ gI (V.2.2.2 k).1 = (3 : Int32) from fun w => by have := k3.mp w; omega), if_pos (show (0 : Int32) = 0 from rfl), if_pos (show (0 : Int32) = 0 from rfl), gk_let_eq, show gI k + (1 : Int32) = gI (k + 1) from gI_add _ 1, f_M_logic_b64]
      dsimp only
      have hlt := late V.2.2.2 r (k + 1) (by rw [eE, es]; omega)
      rw [show k + 1 + r = cellsN V by omega, eE, es] at hlt
      rw [gr_30_5, ga_33 (by omega), gr_30_6, ga_34 (by omega), hm1.2.2.1, hm1.2.2.2.1, gI_mul, ite_le _ _ _ _ (by omega) (by omega), gg_30_11, gu11, ite0 _ hcd.2, if_neg (show ¬ (V.2.2.2 k).2.1 = 0 by omega), ite_self, hlt]
      exact ⟨_, fo, tr, rfl, mX.I _ ⟨rfl, rfl⟩, gu11 _, fun w => by omega, by omega, by omega⟩
    · have es : sp_err (V.2.2.2 k) = 0 := if_neg z4
      rw [es] at eE
      have nx : ∀ fo' tr' : Nat, fo' = fo0 + sc_tru V.2.2.2 false (k + 1) → tr' = tr0 + sc_tru V.2.2.2 true (k + 1) → ∃ T' fo'' tr'', f_M_logic_b64 g (fu + 1) (some 30) F A N (gI fo') (gI tr') (gI v) (gI (k + 1)) (gv_ov h T) = f_M_logic_b203 g (some 30) F A N (gI fo'') (gI tr'') (gI v) (gv_ov h T') ∧ mX mB T T' ∧ T'.1 30 11 = gI (sc_err V.2.2.2 (cellsN V)) ∧ (sc_err V.2.2.2 (cellsN V) = 0 → fo'' = fo0 + sc_tru V.2.2.2 false (cellsN V) ∧ tr'' = tr0 + sc_tru V.2.2.2 true (cellsN V)) ∧ fo'' ≤ fo0 + 16 ∧ tr'' ≤ tr0 + 16 := fun fo' tr' h1 h2 => ih (k + 1) (fu + 1) fo' tr' T (by omega) (by omega) hm hb eE h1 h2
      have i1 : gI k + (1 : Int32) = gI (k + 1) := gI_add _ 1
      have i2 : gI fo + (1 : Int32) = gI (fo + 1) := gI_add _ 1
      have i3 : gI tr + (1 : Int32) = gI (tr + 1) := gI_add _ 1
      have q0 : ∀ {β : Type} (X Y : β), (if (0 : Int32) = 0 then X else Y) = X := fun X Y => if_pos rfl
      have q1 : ∀ {β : Type} (X Y : β), (if (1 : Int32) = 0 then X else Y) = Y := fun X Y => if_neg (by decide)
      have mdn := md_n hok
      -- a counted cell
      have cnt : ((V.2.2.2 k).1 = 1 ∨ (V.2.2.2 k).1 = 3) → ∃ T' fo'' tr'', (((gk_get (gv_ov h T) (some 30) 7 8).bind gk_asR).bind fun x1 => ((gk_ald (gv_ov h T) x1 6 (gI (16 * v + k))).bind gk_asD).bind fun x2 => if (Op.cmpValue (FP.dcmp x2 (0x0000000000000000)) .l) = 0 then (gk_let (gI k + (1 : Int32)) fun x1 => f_M_logic_b64 g (fu + 1) (some 30) F A N (gI fo + (1 : Int32)) (gI tr) (gI v) x1 (gv_ov h T)) else (gk_let (gI k + (1 : Int32)) fun x1 => f_M_logic_b64 g (fu + 1) (some 30) F A N (gI fo + (1 : Int32)) (gI tr + (1 : Int32)) (gI v) x1 (gv_ov h T))) = f_M_logic_b203 g (some 30) F A N (gI fo'') (gI tr'') (gI v) (gv_ov h T') ∧ mX mB T T' ∧ T'.1 30 11 = gI (sc_err V.2.2.2 (cellsN V)) ∧ (sc_err V.2.2.2 (cellsN V) = 0 → fo'' = fo0 + sc_tru V.2.2.2 false (cellsN V) ∧ tr'' = tr0 + sc_tru V.2.2.2 true (cellsN V)) ∧ fo'' ≤ fo0 + 16 ∧ tr'' ≤ tr0 + 16 := by
        intro hk13
        have ez : (fd_k (md (V.2.2.2 k)) = 0) = ¬ (fd_k (V.2.2.2 k).2.2.1 ≠ 0 ∨ (V.2.2.2 k).2.1 ≠ 0) := by
          rcases hk13 with y | y
          · have emd : md (V.2.2.2 k) = (V.2.2.2 k).2.2.1 := if_pos y
            have e0 := hok.2.2.2.2.2.2.1 (by omega) z4
            rw [emd, e0]
            simp
          · have emd : md (V.2.2.2 k) = FP.i2d (gI (V.2.2.2 k).2.1) := if_neg (by omega)
            have e0 := hok.2.2.2.1 (by omega)
            have hc1 := hok.2.2.2.2.1 y
            rw [emd, e0, fd_k0]
            by_cases w : (V.2.2.2 k).2.1 = 0
            · rw [w]
              exact propext ⟨fun _ => by simp, fun _ => by decide +kernel⟩
            · exact propext ⟨fun y => absurd y (fd_i2nz (by omega) (by omega)).2, fun y => by simp [w] at y⟩
        rw [gr_30_8, ga_36 (by omega), hcell.2.1, fi_eq _ _ mdn fd_0_n, fd_k0, gk_let_eq, gk_let_eq, i1, i2, i3]
        simp only [ez]
        rw [if_pos hk13] at ef
        by_cases w : fd_k (V.2.2.2 k).2.2.1 ≠ 0 ∨ (V.2.2.2 k).2.1 ≠ 0
        · rw [if_pos ⟨hk13, w⟩] at et
          rw [if_neg (fun y => y w)]
          exact nx (fo + 1) (tr + 1) (by omega) (by omega)
        · rw [if_neg (fun y => w y.2)] at et
          rw [if_pos w]
          exact nx (fo + 1) tr (by omega) (by omega)
      rw [if_neg (show ¬ gI (V.2.2.2 k).1 = (4 : Int32) from fun w => z4 (k4.mp w)), gr_30_7, ga_35 (by omega), hcell.1, q0, q0, q1, q1, gr_30_7, ga_35 (by omega), hcell.1]
      by_cases z1 : (V.2.2.2 k).1 = 1
      · rw [if_pos (show gI (V.2.2.2 k).1 = (1 : Int32) from k1.mpr z1)]
        exact cnt (Or.inl z1)
      · rw [if_neg (show ¬ gI (V.2.2.2 k).1 = (1 : Int32) from fun w => z1 (k1.mp w))]
        by_cases z3 : (V.2.2.2 k).1 = 3
        · rw [if_pos (show gI (V.2.2.2 k).1 = (3 : Int32) from k3.mpr z3)]
          exact cnt (Or.inr z3)
        · rw [if_neg (show ¬ gI (V.2.2.2 k).1 = (3 : Int32) from fun w => z3 (k3.mp w)), gk_let_eq, i1]
          rw [if_neg (fun w => w.elim z1 z3)] at ef
          rw [if_neg (fun w => w.1.elim z1 z3)] at et
          exact nx fo tr (by omega) (by omega)
theorem so_late : ∀ (m k : Nat), so_err vs k ≠ 0 → so_err vs (k + m) = so_err vs k
  | 0, _, _ => rfl
  | m + 1, k, hk => by
    show bl (so_err vs (k + m)) _ = _
    rw [so_late m k hk, bl_p hk]
theorem sp_tru_le' {c : gp_C} (h : gp_okC c) : (sp_tru c).1 ≤ 8 := by
  unfold sp_tru
  split
  · split
    · exact Nat.zero_le _
    · split
      · exact Nat.zero_le _
      · show 3 ≤ 8
        decide
  · exact sp_err_le h
theorem mlo_226 (hf : f = 39 ∨ f = 40 ∨ f = 41) {e fo tr : Nat} (hfo : fo < 2000) (htr : tr < 2000) (q : mX mSt S0 S) (hb : S.1 30 11 = gI e) (h8 : e ≤ 8) : mF h S0 (f_M_logic_b226 (some 30) (gI f) (gI fo) (gI tr) (gv_ov h S)) (gV_1 (sx e (if f = 39 then gc_b (decide (tr = fo)) else if f = 40 then gc_b (decide (0 < tr)) else gc_b (decide (tr % 2 = 1))))) := by
  have o1 : (1 : Int32) = gB true := rfl
  have o0 : (0 : Int32) = gB false := rfl
  have b280 : ∀ t : Bool, mF h S0 (f_M_logic_b280 (some 30) (gB t) (gv_ov h S)) (gV_1 (sx e (gc_b t))) := fun t => by
    unfold f_M_logic_b280
    rw [gc_30, gu_idU]
    exact mF.ansT t q hb h8
  have q39 : (gI f = (39 : Int32)) = (f = 39) := gI_eq f 39 (by omega) (by decide)
  have q40 : (gI f = (40 : Int32)) = (f = 40) := gI_eq f 40 (by omega) (by decide)
  unfold f_M_logic_b226
  simp only [q39, q40]
  by_cases z1 : f = 39
  · rw [if_pos z1, if_pos z1, ite_eq _ _ _ _ (by omega) (by omega)]
    by_cases y : tr = fo
    · rw [if_pos y, decide_eq_true y]
      exact b280 true
    · rw [if_neg y, decide_eq_false y]
      exact b280 false
  · rw [if_neg z1, if_neg z1]
    by_cases z2 : f = 40
    · rw [if_pos z2, if_pos z2, show (0 : Int32) = gI 0 from rfl, ite_le _ _ _ _ (by omega) (by decide)]
      by_cases y : tr ≤ 0
      · rw [if_pos y, decide_eq_false (show ¬ 0 < tr by omega)]
        exact b280 false
      · rw [if_neg y, decide_eq_true (show 0 < tr by omega)]
        exact b280 true
    · have d2 := (gN_div2 tr htr).2
      rw [if_neg z2, if_neg z2]
      by_cases y : tr % 2 = 1
      · rw [if_pos (d2.mpr y), decide_eq_true y]
        exact b280 true
      · rw [if_neg (fun w => y (d2.mp w)), decide_eq_false y]
        exact b280 false
theorem mlo_9 (hf : f = 39 ∨ f = 40 ∨ f = 41) (hn8 : n ≤ 8) : ∀ (r k fu fo tr : Nat) (T : gv_S), k + r = n → r < fu → mX mSt S0 T → mG T a vs n → T.1 30 11 = gI (so_err vs k) → so_err vs k ≤ 8 → (so_err vs k = 0 → fo = so_all vs k ∧ tr = so_aff vs k) → fo ≤ 16 * k → tr ≤ 16 * k → mF h S0 (f_M_logic_b9 fu (some 30) (gI f) (gI a) (gI n) (gI fo) (gI tr) (gI (a + k)) (gv_ov h T)) (gV_1 (sx (so_err vs n) (sp_of f (so_all vs n) (so_aff vs n)))) := by
  -- the end
  have b209 : ∀ (k fo tr : Nat) (T : gv_S), k ≤ n → mX mSt S0 T → T.1 30 11 = gI (so_err vs k) → so_err vs k ≤ 8 → (so_err vs k = 0 → k = n ∧ fo = so_all vs n ∧ tr = so_aff vs n) → fo ≤ 200 → tr ≤ 200 → mF h S0 (f_M_logic_b209 (some 30) (gI f) (gI fo) (gI tr) (gv_ov h T)) (gV_1 (sx (so_err vs n) (sp_of f (so_all vs n) (so_aff vs n)))) := by
    intro k fo tr T hkn q hb h8 inv hfo htr
    unfold f_M_logic_b209
    rw [gg_30_11, hb, ite0 _ h8]
    by_cases z : so_err vs k = 0
    · obtain ⟨i1, i2, i3⟩ := inv z
      subst i1
      rw [if_pos z, show ∀ c : gp_C, sx (so_err vs k) c = c from fun c => if_pos z, ← i2, ← i3, show (0 : Int32) = gI 0 from rfl, ite_eq _ _ _ _ (by omega) (by decide)]
      rw [z] at hb
      unfold sp_of
      by_cases y : fo = 0
      · have hX : mX mSt S0 (gv_uI T 30 11 (gI 3)) := q.trans (mX.I _ (mB_st ⟨rfl, rfl⟩))
        have := mlo_226 (h := h) hf (e := 3) (fo := fo) (tr := tr) (by omega) (by omega) hX (gu11 3) (by decide)
        rw [show ∀ c : gp_C, sx 3 c = gc_e 3 from fun c => if_neg (by decide)] at this
        rw [if_pos y, if_pos y, gc_30, gI_lit 3, m_fail 0 3 hb (by decide), gk_ca_some, bl_n]
        exact this
      · have := mlo_226 (h := h) hf (e := 0) (fo := fo) (tr := tr) (by omega) (by omega) q hb (by decide)
        rw [show ∀ c : gp_C, sx 0 c = c from fun c => if_pos rfl] at this
        rw [if_neg y, if_neg y]
        exact this
    · have hlt := so_late (vs := vs) (n - k) k z
      rw [show k + (n - k) = n by omega] at hlt
      have := mlo_226 (h := h) hf (e := so_err vs k) (fo := fo) (tr := tr) (by omega) (by omega) q hb h8
      rw [show ∀ c : gp_C, sx (so_err vs k) c = gc_e (so_err vs k) from fun c => if_neg z] at this
      rw [if_neg z, hlt, show ∀ c : gp_C, sx (so_err vs k) c = gc_e (so_err vs k) from fun c => if_neg z]
      exact this
  intro r
  induction r with
  | zero =>
    intro k fu fo tr T hk hfu q hG hb h8 inv hfo htr
    obtain ⟨fu, rfl⟩ : ∃ g, fu = g + 1 := ⟨fu - 1, by omega⟩
    have h16 := hG.1
    have ek : k = n := by omega
    rw [f_M_logic_b9]
    dsimp only
    rw [gI_add, ite_le _ _ _ _ (by omega) (by omega), if_pos (by omega)]
    exact b209 k fo tr T (by omega) q hb h8 (fun z => by
      obtain ⟨i1, i2⟩ := inv z
      rw [ek] at i1 i2
      exact ⟨ek, i1, i2⟩) (by omega) (by omega)
  | succ r ih =>
    intro k fu fo tr T hk hfu q hG hb h8 inv hfo htr
    obtain ⟨fu, rfl⟩ : ∃ g, fu = g + 1 := ⟨fu - 1, by omega⟩
    have h16 := hG.1
    rw [f_M_logic_b9]
    dsimp only
    rw [gI_add, ite_le _ _ _ _ (by omega) (by omega), if_neg (by omega), gg_30_11, hb, ite0 _ h8]
    by_cases z : so_err vs k = 0
    · obtain ⟨i1, i2⟩ := inv z
      rw [z] at hb
      have hmk := hG.2 k (by omega)
      have hV5 : (vs k).1 ≤ 5 := by
        rcases hmk.1.2.2.2.2 with q | ⟨q, q2, q3⟩
        · omega
        · have := (hmk.1.2.2.2.1 0 (by rw [q2, q3]; decide)).1
          omega
      have eE : so_err vs (k + 1) = if (vs k).1 = 5 then sc_err (vs k).2.2.2 (cellsN (vs k)) else (sp_tru (sp_1 (vs k))).1 := by
        show bl (so_err vs k) _ = _
        rw [z, bl_n]
      have ea : so_all vs (k + 1) = so_all vs k + if (vs k).1 = 5 then sc_tru (vs k).2.2.2 false (cellsN (vs k)) else 1 := rfl
      have ef : so_aff vs (k + 1) = so_aff vs k + if (vs k).1 = 5 then sc_tru (vs k).2.2.2 true (cellsN (vs k)) else if (sp_tru (sp_1 (vs k))).2 = true then 1 else 0 := rfl
      have nx : ∀ (fo' tr' : Nat) (T1 : gv_S), mX mSt T T1 → T1.1 30 11 = gI (so_err vs (k + 1)) → so_err vs (k + 1) ≤ 8 → (so_err vs (k + 1) = 0 → fo' = so_all vs (k + 1) ∧ tr' = so_aff vs (k + 1)) → fo' ≤ 16 * (k + 1) → tr' ≤ 16 * (k + 1) → mF h S0 (f_M_logic_b203 (f_M_logic_b9 fu) (some 30) (gI f) (gI a) (gI n) (gI fo') (gI tr') (gI (a + k)) (gv_ov h T1)) (gV_1 (sx (so_err vs n) (sp_of f (so_all vs n) (so_aff vs n)))) := fun fo' tr' T1 qT hb1 h81 inv1 c1 c2 => by
        unfold f_M_logic_b203
        rw [gk_let_eq, gI_pl]
        exact ih (k + 1) fu fo' tr' T1 (by omega) (by omega) (q.trans qT) (hG.st qT) hb1 h81 inv1 c1 c2
      rw [if_pos z, gr_30_4, ga_32 (by omega), hmk.2.1, gI_lit 5, ite_le _ _ _ _ (by decide) (by omega)]
      by_cases z5 : (vs k).1 = 5
      · rw [if_pos z5] at eE ea ef
        have hc16 : cellsN (vs k) ≤ 16 := hmk.1.2.2.1
        obtain ⟨T1, fo', tr', e1, e2, e3, e4, e5, e6⟩ := mlo_64 (h := h) (V := vs k) (f_M_logic_b9 fu) (gI f) (gI a) (gI n) (v := a + k) (by omega) fo tr (cellsN (vs k)) 0 gk_F fo tr T (Nat.zero_add _) (by unfold gk_F; omega) hmk hb rfl rfl rfl
        have e1' : f_M_logic_b64 (f_M_logic_b9 fu) gk_F (some 30) (gI f) (gI a) (gI n) (gI fo) (gI tr) (gI (a + k)) (0 : Int32) (gv_ov h T) = _ := e1
        rw [if_pos (by omega), e1']
        exact nx fo' tr' T1 (e2.le fun _ _ w => mB_st w) (by rw [eE]; exact e3) (by rw [eE]; exact sc_err_le _ fun j hj => hmk.1.2.2.2.1 j hj) (fun y => by
          rw [eE] at y
          obtain ⟨y1, y2⟩ := e4 y
          exact ⟨by rw [ea, y1, i1], by rw [ef, y2, i2]⟩) (by omega) (by omega)
      · rw [if_neg z5] at eE ea ef
        obtain ⟨T1, e1, e2, e3⟩ := m_wantTruth (h := h) hmk (by omega) hb (by decide)
        rw [bl_n, ← eE] at e3
        rw [if_pos rfl] at e1
        have q1 : mX mSt T T1 := e2.le fun _ _ w => mQ_st w
        have h81 : so_err vs (k + 1) ≤ 8 := by
          rw [eE]
          exact sp_tru_le' (sp_1_ok hmk.1)
        rw [if_neg (by omega), gc_30, e1, gk_ca_some, ite_B]
        unfold f_M_logic_b53
        rw [gk_let_eq, gk_let_eq, show gI fo + (1 : Int32) = gI (fo + 1) from gI_add _ 1, show gI tr + (1 : Int32) = gI (tr + 1) from gI_add _ 1]
        by_cases y : (sp_tru (sp_1 (vs k))).2 = true
        · rw [if_pos y] at ef ⊢
          exact nx (fo + 1) (tr + 1) T1 q1 e3 h81 (fun _ => ⟨by rw [ea, i1], by rw [ef, i2]⟩) (by omega) (by omega)
        · rw [if_neg y] at ef ⊢
          exact nx (fo + 1) tr T1 q1 e3 h81 (fun _ => ⟨by rw [ea, i1], by rw [ef, i2]; rfl⟩) (by omega) (by omega)
    · rw [if_neg z]
      exact b209 k fo tr T (by omega) q hb h8 (fun w => absurd w z) (by omega) (by omega)
theorem mo_logic (g : mG S a vs n) (hb : S.1 30 11 = gI 0) (hf : f = 39 ∨ f = 40 ∨ f = 41) (hn8 : n ≤ 8) : mF h S (f_M_logic (some 30) (gI f) (gI a) (gI n) (gv_ov h S)) (gV_1 (sx (so_err vs n) (sp_of f (so_all vs n) (so_aff vs n)))) :=
  mlo_9 (h := h) (S0 := S) hf hn8 n 0 gk_F 0 0 S (Nat.zero_add _) (by unfold gk_F; omega) (mX.refl _ _) g hb (Nat.zero_le _) (fun _ => ⟨rfl, rfl⟩) (Nat.zero_le _) (Nat.zero_le _)
end MCHO
