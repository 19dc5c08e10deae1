/-! THE PURE PART: the reference's match, sections of tables -/
section MMT
variable {h : gk_H} {S S0 S1 T : gv_S} {a n f : Nat} {vs : Nat → gp_V} {V : gp_V} {x w : gp_C}
theorem ord_wt {y : gp_C} (hx : gp_okC x) (hy : y.1 = (if x.1 = 0 then 1 else x.1)) : sp_ord y x = sp_ord y (sp_wt x) := by
  unfold sp_wt
  by_cases z : x.1 = 0
  · rw [if_pos z] at hy ⊢
    have e0 := hx.2.2.2.1 (by omega)
    have g1 : (gc_n 0).1 = 1 := rfl
    have g2 : (gc_n 0).2.2.1 = 0 := by
      show fd_c 0 = 0
      exact fd_c0
    unfold sp_ord sp_ok2 sp_ok1
    rw [hy, z, g1, g2, e0]
    rfl
  · rw [if_neg z]
theorem mma_27 {c first ap : Nat} {L : Nat → gp_C} (hxm : mc S c x) (hx : gp_okC x) (hc : c < 256) (hx4 : x.1 ≠ 4) (hn : n ≤ 16) (hL : ∀ i, i < n → mc S (first + i * ap) (L i) ∧ gp_okC (L i) ∧ first + i * ap < 256) (way : Int) (hw : way = 0 ∨ way = 1 ∨ way = -1) : ∀ (r i fu : Nat) (la : Option Nat), i + r = n → r < fu → (way = 0 → la = none) → (∀ z, la = some z → z < 256) → f_M_match_b27 fu (some 30) (gI c) (gI first) (gI n) (gI ap) (gN way) (gI (if x.1 = 0 then 1 else x.1)) (oI la) (gI i) (gv_ov h S) = some (oI (if way = 0 then sp_fs (sp_wt x) L r i else sp_lb (sp_wt x) L (decide (way = 1)) r i la), gv_ov h S) := by
  have hk4 := hx.1
  have kb : (if x.1 = 0 then 1 else x.1) ≤ 4 := by split <;> omega
  have kn4 : (if x.1 = 0 then 1 else x.1) ≠ 4 := by split <;> omega
  have wt1 : (sp_wt x).1 = (if x.1 = 0 then 1 else x.1) := by
    unfold sp_wt
    by_cases z : x.1 = 0
    · rw [if_pos z, if_pos z]
      rfl
    · rw [if_neg z, if_neg z]
  have hxl := hx.2.2.2.2.2.2.2.2.1
  intro r
  induction r with
  | zero =>
    intro i fu la hi hf hla hlb
    obtain ⟨fu, rfl⟩ : ∃ g, fu = g + 1 := ⟨fu - 1, by omega⟩
    have e1 : sp_fs (sp_wt x) L 0 i = none := rfl
    have e2 : sp_lb (sp_wt x) L (decide (way = 1)) 0 i la = la := rfl
    rw [f_M_match_b27]
    dsimp only
    rw [ite_le _ _ _ _ (by omega) (by omega), if_pos (by omega), e1, e2]
    by_cases z : way = 0
    · rw [if_pos z, hla z]
    · rw [if_neg z]
  | succ r ih =>
    intro i fu la hi hf hla hlb
    obtain ⟨fu, rfl⟩ : ∃ g, fu = g + 1 := ⟨fu - 1, by omega⟩
    obtain ⟨m1, m2, m3⟩ := hL i (by omega)
    have hLk := m2.1
    have hLl := m2.2.2.2.2.2.2.2.2.1
    have i1 : gI i + (1 : Int32) = gI (i + 1) := gI_add _ 1
    have e1 : sp_fs (sp_wt x) L (r + 1) i = if (L i).1 = (sp_wt x).1 ∧ (if (sp_wt x).1 = 2 then lk false (lk_tk (sp_wt x).2.2.2) (L i).2.2.2 = true else sp_ord (L i) (sp_wt x) = 0) then some i else sp_fs (sp_wt x) L r (i + 1) := rfl
    have e2 : sp_lb (sp_wt x) L (decide (way = 1)) (r + 1) i la = if (L i).1 = (sp_wt x).1 then (if (if decide (way = 1) = true then 0 < sp_ord (L i) (sp_wt x) else sp_ord (L i) (sp_wt x) < 0) then la else sp_lb (sp_wt x) L (decide (way = 1)) r (i + 1) (some i)) else sp_lb (sp_wt x) L (decide (way = 1)) r (i + 1) la := rfl
    have nx : ∀ la' : Option Nat, (way = 0 → la' = none) → (∀ z, la' = some z → z < 256) → f_M_match_b157 (f_M_match_b27 fu) (some 30) (gI c) (gI first) (gI n) (gI ap) (gN way) (gI (if x.1 = 0 then 1 else x.1)) (oI la') (gI i) (gv_ov h S) = some (oI (if way = 0 then sp_fs (sp_wt x) L r (i + 1) else sp_lb (sp_wt x) L (decide (way = 1)) r (i + 1) la'), gv_ov h S) := fun la' g1 g2 => by
      unfold f_M_match_b157
      rw [gk_let_eq, i1]
      exact ih (i + 1) fu la' (by omega) (by omega) g1 g2
    have wz : ∀ {β : Type} (X Y : β), (if gN way = (0 : Int32) then X else Y) = if way = 0 then X else Y := fun X Y => by
      rw [show (0 : Int32) = gN 0 from rfl]
      exact nte_eq _ _ _ _ (by omega) (by omega) (by decide) (by decide)
    rw [f_M_match_b27]
    dsimp only
    rw [ite_le _ _ _ _ (by omega) (by omega), if_neg (by omega), gI_mul, gI_add, gk_let_eq, gr_30_7, ga_35 (by omega), m1.1, ite_eq _ _ _ _ (by omega) (by omega), e1, e2, wt1]
    by_cases zk : (L i).1 = (if x.1 = 0 then 1 else x.1)
    · have hL4 : (L i).1 ≠ 4 := by rw [zk]; exact kn4
      have ho := ord_wt hx zk
      have hcmp := mc_cmp (h := h) m1 hxm m2 hx (by omega) (by omega) hL4 hx4
      rw [ho] at hcmp
      have sg : -1 ≤ sgn (sp_ord (L i) (sp_wt x)) ∧ sgn (sp_ord (L i) (sp_wt x)) ≤ 1 := by
        unfold sgn
        split
        · omega
        · split <;> omega
      rw [if_pos zk, wz]
      by_cases zw : way = 0
      · have b120 : ∀ t : Bool, (t = true ↔ (if (if x.1 = 0 then 1 else x.1) = 2 then lk false (lk_tk (sp_wt x).2.2.2) (L i).2.2.2 = true else sp_ord (L i) (sp_wt x) = 0)) → f_M_match_b120 (f_M_match_b27 fu) (some 30) (gI c) (gI first) (gI n) (gI ap) (gN way) (gI (if x.1 = 0 then 1 else x.1)) (oI la) (gI i) (gB t) (gv_ov h S) = some (oI (if (L i).1 = (if x.1 = 0 then 1 else x.1) ∧ (if (if x.1 = 0 then 1 else x.1) = 2 then lk false (lk_tk (sp_wt x).2.2.2) (L i).2.2.2 = true else sp_ord (L i) (sp_wt x) = 0) then some i else sp_fs (sp_wt x) L r (i + 1)), gv_ov h S) := by
          intro t ht
          unfold f_M_match_b120
          rw [ite_B]
          cases t
          · have hno : ¬ (if (if x.1 = 0 then 1 else x.1) = 2 then lk false (lk_tk (sp_wt x).2.2.2) (L i).2.2.2 = true else sp_ord (L i) (sp_wt x) = 0) := fun y => absurd (ht.mpr y) (by decide)
            have zn : ∀ P : Prop, ¬ P → ¬ ((L i).1 = (if x.1 = 0 then 1 else x.1) ∧ P) := fun P hP y => hP y.2
            have := nx la hla hlb
            rw [if_pos zw] at this
            rw [if_neg (show ¬ (false = true) by decide), this, if_neg (zn _ hno)]
          · rw [if_pos (show true = true from rfl), if_pos ⟨zk, ht.mp rfl⟩]
            rfl
        have o1 : (1 : Int32) = gB true := rfl
        have o0 : (0 : Int32) = gB false := rfl
        rw [if_pos zw, if_pos zw, gI_lit 2, ite_eq _ _ _ _ (by omega) (by decide)]
        by_cases z2 : (if x.1 = 0 then 1 else x.1) = 2
        · have zx2 : x.1 = 2 := by
            by_cases y : x.1 = 0
            · rw [if_pos y] at z2
              omega
            · rw [if_neg y] at z2
              exact z2
          have ewt : sp_wt x = x := by
            unfold sp_wt
            rw [if_neg (by omega)]
          have hlk := m_like (m1.src m2 (by omega) h) (hxm.src hx (by omega) h) hLl hxl false
          have hlk' : f_M_isLike (some 30) (some 38) (gI (256 * (first + i * ap))) (gI (L i).2.2.2.length) (some 38) (gI (256 * c)) (gI x.2.2.2.length) (0 : Int32) (gv_ov h S) = _ := hlk
          rw [if_pos z2, gr_30_10, gr_30_9, ga_37 (by omega), m1.2.2.1, gr_30_10, gr_30_9, ga_37 (by omega), hxm.2.2.1, gI_lit 256, gI_mul, gI_mul, gc_30, hlk', gk_ca_some]
          refine b120 _ ?_
          rw [if_pos z2, ewt]
        · have e0 : ∀ {β : Type} (X Y : β), (if gN (sgn (sp_ord (L i) (sp_wt x))) = (0 : Int32) then X else Y) = if sp_ord (L i) (sp_wt x) = 0 then X else Y := fun X Y => by
            rw [show (0 : Int32) = gN 0 from rfl, nte_eq _ _ _ _ (by omega) (by omega) (by decide) (by decide)]
            unfold sgn
            by_cases y1 : sp_ord (L i) (sp_wt x) < 0
            · rw [if_pos y1, if_neg (by decide), if_neg (by omega)]
            · rw [if_neg y1]
              by_cases y2 : 0 < sp_ord (L i) (sp_wt x)
              · rw [if_pos y2, if_neg (by decide), if_neg (by omega)]
              · rw [if_neg y2, if_pos rfl, if_pos (by omega)]
          rw [if_neg z2, gc_30, hcmp, gk_ca_some, e0, o1, o0]
          by_cases y : sp_ord (L i) (sp_wt x) = 0
          · rw [if_pos y]
            exact b120 true (by rw [if_neg z2]; exact ⟨fun _ => y, fun _ => rfl⟩)
          · rw [if_neg y]
            exact b120 false (by rw [if_neg z2]; exact ⟨fun q => absurd q (by decide), fun q => absurd q y⟩)
      · have em : gN (sgn (sp_ord (L i) (sp_wt x))) * gN way = gN (sgn (sp_ord (L i) (sp_wt x)) * way) := gN_mul _ _
        have hb : -1 ≤ sgn (sp_ord (L i) (sp_wt x)) * way ∧ sgn (sp_ord (L i) (sp_wt x)) * way ≤ 1 := by
          rcases hw with q | q | q
          · exact absurd q zw
          · rw [q]
            omega
          · rw [q]
            omega
        have el : ∀ {β : Type} (X Y : β), (if gN (sgn (sp_ord (L i) (sp_wt x)) * way) ≤ (0 : Int32) then X else Y) = if (if decide (way = 1) = true then 0 < sp_ord (L i) (sp_wt x) else sp_ord (L i) (sp_wt x) < 0) then Y else X := fun X Y => by
          rw [show (0 : Int32) = gN 0 from rfl, nte_le _ _ _ _ (by omega) (by omega) (by decide) (by decide)]
          have key : (sgn (sp_ord (L i) (sp_wt x)) * way ≤ 0) ↔ ¬ (if decide (way = 1) = true then 0 < sp_ord (L i) (sp_wt x) else sp_ord (L i) (sp_wt x) < 0) := by
            rcases hw with q | q | q
            · exact absurd q zw
            · rw [q, decide_eq_true rfl, if_pos rfl]
              unfold sgn
              by_cases y1 : sp_ord (L i) (sp_wt x) < 0
              · rw [if_pos y1]
                omega
              · rw [if_neg y1]
                split <;> omega
            · rw [q, decide_eq_false (by decide), if_neg (by decide)]
              unfold sgn
              by_cases y1 : sp_ord (L i) (sp_wt x) < 0
              · rw [if_pos y1]
                omega
              · rw [if_neg y1]
                split <;> omega
          by_cases y : (if decide (way = 1) = true then 0 < sp_ord (L i) (sp_wt x) else sp_ord (L i) (sp_wt x) < 0)
          · rw [if_neg (fun q => (key.mp q) y), if_pos y]
          · rw [if_pos (key.mpr y), if_neg y]
        rw [if_neg zw, if_neg zw, gc_30, hcmp, gk_ca_some, em, gk_let_eq, el, if_pos zk]
        by_cases y : (if decide (way = 1) = true then 0 < sp_ord (L i) (sp_wt x) else sp_ord (L i) (sp_wt x) < 0)
        · rw [if_pos y, if_pos y]
        · have := nx (some i) (fun q => absurd q zw) (fun z hz => by
            have := Option.some.inj hz
            omega)
          rw [if_neg zw] at this
          rw [if_neg y, if_neg y]
          exact this
    · have zn : ∀ P : Prop, ¬ ((L i).1 = (if x.1 = 0 then 1 else x.1) ∧ P) := fun P y => zk y.1
      rw [if_neg zk, if_neg (zn _), if_neg zk]
      exact nx la hla hlb
theorem m_match {c first ap : Nat} {L : Nat → gp_C} (hxm : mc S c x) (hx : gp_okC x) (hc : c < 256) (hx4 : x.1 ≠ 4) (hn : n ≤ 16) (hL : ∀ i, i < n → mc S (first + i * ap) (L i) ∧ gp_okC (L i) ∧ first + i * ap < 256) (way : Int) (hw : way = 0 ∨ way = 1 ∨ way = -1) : f_M_match (some 30) (gI c) (gI first) (gI n) (gI ap) (gN way) (gv_ov h S) = some (oI (sp_pl (sp_wt x) L n way), gv_ov h S) := by
  have hk4 := hx.1
  have e := mma_27 (h := h) hxm hx hc hx4 hn hL way hw n 0 gk_F none (Nat.zero_add _) (by unfold gk_F; omega) (fun _ => rfl) (fun z hz => by cases hz)
  have ep : (if way = 0 then sp_fs (sp_wt x) L n 0 else sp_lb (sp_wt x) L (decide (way = 1)) n 0 none) = sp_pl (sp_wt x) L n way := by
    unfold sp_pl
    rcases hw with rfl | rfl | rfl
    · rfl
    · rfl
    · rfl
  rw [ep] at e
  have e' : f_M_match_b27 gk_F (some 30) (gI c) (gI first) (gI n) (gI ap) (gN way) (gI (if x.1 = 0 then 1 else x.1)) (-1 : Int32) (0 : Int32) (gv_ov h S) = _ := e
  unfold f_M_match f_M_match_b19
  rw [gr_30_7, ga_35 (by omega), hxm.1, gr_30_7, ga_35 (by omega), hxm.1, ine0 _ (by omega)]
  by_cases z : x.1 = 0
  · rw [if_pos z] at e' ⊢
    exact e'
  · rw [if_neg z] at e' ⊢
    exact e'
/-- cells copied to slot 16 stand -/
def mSec (T : gv_S) (C : Nat → gp_C) (D : Nat → Prop) : Prop := ∀ j, j < 16 → D j → mc T (256 + j) (C j)
theorem mSec.copy {C : Nat → gp_C} {D : Nat → Prop} {v s t : Nat} (hm : mv T v V) (hv : v < 16) (hs : s < V.2.1 * V.2.2.1) (ht : t < 16) (hC : ∀ j, j < 16 → D j → gp_okC (C j)) (a : mSec T C D) (eC : C t = V.2.2.2 s) : ∃ T', f_M_copyCell (some 30) (gI (16 * v + s)) (gI (256 + t)) (gv_ov h T) = some ((), gv_ov h T') ∧ mX (mCl (256 + t)) T T' ∧ mv T' v V ∧ mSec T' C (fun j => D j ∨ j = t) := by
  have h16 := hm.1.2.2.1
  have hok := hm.1.2.2.2.1 s hs
  obtain ⟨T', e1, e2, e3⟩ := m_copyCell (h := h) hok (hm.2.2.2.2 s hs) (show 16 * v + s < 272 by omega) (show 256 + t < 272 by omega) (by omega)
  refine ⟨T', e1, e2, hm.X e2 fun x y z => by unfold mCl at z; omega, fun j hj hD => ?_⟩
  by_cases q : j = t
  · rw [q, eC]
    exact e3
  · have hDj : D j := by
      rcases hD with y | y
      · exact y
      · exact absurd y q
    exact (a j hj hDj).X e2 (hC j hj hDj).2.2.2.2.2.2.2.2.1 fun x y z => by
      unfold mCl at z
      omega
theorem mCl_st {t a b : Nat} (ht : t < 16) (z : mCl (256 + t) a b) : mSt a b := by
  unfold mCl at z
  unfold mSt
  omega
theorem mCl_b {t : Nat} {T' : gv_S} (q : mX (mCl (256 + t)) T T') : T'.1 30 11 = T.1 30 11 := q.i fun z => by
  unfold mCl at z
  omega
/-- the three marks of slot 16 -/
theorem mSec.mv {C : Nat → gp_C} (R K : Nat) (hR : 1 ≤ R) (hK : 1 ≤ K) (hRK : R * K ≤ 16) (hC : ∀ j, j < R * K → gp_okC (C j)) (a : mSec T C (fun j => j < R * K)) : mv (gv_uI (gv_uI (gv_uI T 32 16 (gI 5)) 33 16 (gI R)) 34 16 (gI K)) 16 (5, R, K, C) := by
  have q : mX (fun x _ => x = 32 ∨ x = 33 ∨ x = 34) T (gv_uI (gv_uI (gv_uI T 32 16 (gI 5)) 33 16 (gI R)) 34 16 (gI K)) := ((mX.I (P := fun x _ => x = 32 ∨ x = 33 ∨ x = 34) _ (Or.inl rfl)).trans (mX.I (P := fun x _ => x = 32 ∨ x = 33 ∨ x = 34) _ (Or.inr (Or.inl rfl)))).trans (mX.I (P := fun x _ => x = 32 ∨ x = 33 ∨ x = 34) _ (Or.inr (Or.inr rfl)))
  refine ⟨⟨hR, hK, hRK, hC, Or.inl rfl⟩, ?_, ?_, ?_, fun j hj => ?_⟩
  · simp (disch := (first | omega | assumption | exact fd_0_n | exact fd_53_n | exact fd_m53_n)) only [gu_I1, gu_I2, gu_I3, gu_I4, gu_D1, gu_D2, gu_D3, gu_D4]
  · simp (disch := (first | omega | assumption | exact fd_0_n | exact fd_53_n | exact fd_m53_n)) only [gu_I1, gu_I2, gu_I3, gu_I4, gu_D1, gu_D2, gu_D3, gu_D4]
  · simp (disch := (first | omega | assumption | exact fd_0_n | exact fd_53_n | exact fd_m53_n)) only [gu_I1, gu_I2, gu_I3, gu_I4, gu_D1, gu_D2, gu_D3, gu_D4]
  · have hj' : j < R * K := hj
    exact (a j (by omega) hj').X q (hC j hj').2.2.2.2.2.2.2.2.1 fun x y z => by omega
theorem mSec_st (R K : Int32) : mX mSt T (gv_uI (gv_uI (gv_uI T 32 16 (gI 5)) 33 16 R) 34 16 K) := ((mX.I _ (by unfold mSt; omega)).trans (mX.I _ (by unfold mSt; omega))).trans (mX.I _ (by unfold mSt; omega))
/-- a row of a section -/
theorem mpt_16 (g : Option Nat → Int32 → Int32 → Int32 → Int32 → Int32 → Int32 → Int32 → gk_H → Option (Unit × gk_H)) {C : Nat → gp_C} {v row col hi wi r k0 : Nat} (fr tr : Int32) (hv : v < 16) (hr : r < V.2.1) (hcw : col + wi ≤ V.2.2.1) (hk : k0 + wi ≤ 16) (hC : ∀ j, j < 16 → j < k0 + wi → gp_okC (C j)) (eC : ∀ c, c < wi → C (k0 + c) = V.2.2.2 (r * V.2.2.1 + (col + c))) : ∀ (m c fu : Nat) (T : gv_S), c + m = wi → m < fu → mv T v V → mSec T C (fun j => j < k0 + c) → ∃ T', f_M_part_b16 g fu (some 30) (gI v) fr tr (gI col) (gI (col + wi)) (gI (k0 + c)) (gI r) (gI (col + c)) (gv_ov h T) = g (some 30) (gI v) fr tr (gI col) (gI (col + wi)) (gI (k0 + wi)) (gI (r + 1)) (gv_ov h T') ∧ mX mSt T T' ∧ T'.1 30 11 = T.1 30 11 ∧ mv T' v V ∧ mSec T' C (fun j => j < k0 + wi) := by
  intro m
  induction m with
  | zero =>
    intro c fu T hc hf hm a
    obtain ⟨fu, rfl⟩ : ∃ g, fu = g + 1 := ⟨fu - 1, by omega⟩
    obtain ⟨l1, l2⟩ := hm.sh
    rw [f_M_part_b16]
    dsimp only
    rw [ite_le _ _ _ _ (by omega) (by omega), if_pos (by omega), gk_let_eq, show gI r + (1 : Int32) = gI (r + 1) from gI_add _ 1, show k0 + c = k0 + wi by omega]
    rw [show k0 + c = k0 + wi by omega] at a
    exact ⟨T, rfl, mX.refl _ _, rfl, hm, a⟩
  | succ m ih =>
    intro c fu T hc hf hm a
    obtain ⟨fu, rfl⟩ : ∃ g, fu = g + 1 := ⟨fu - 1, by omega⟩
    obtain ⟨l1, l2⟩ := hm.sh
    have hs : r * V.2.2.1 + (col + c) < V.2.1 * V.2.2.1 := by
      have h1 := Nat.mul_le_mul_right V.2.2.1 (show r + 1 ≤ V.2.1 by omega)
      rw [Nat.add_mul, Nat.one_mul] at h1
      omega
    obtain ⟨T1, e1, e2, e3, e4⟩ := mSec.copy (h := h) hm hv hs (show k0 + c < 16 by omega) (fun j h1 h2 => hC j h1 (by omega)) a (eC c (by omega))
    have e4' : mSec T1 C (fun j => j < k0 + (c + 1)) := fun j h1 h2 => e4 j h1 (by omega)
    obtain ⟨T2, q1, q2, q3, q4, q5⟩ := ih (c + 1) fu T1 (by omega) (by omega) e3 e4'
    rw [f_M_part_b16]
    dsimp only
    rw [ite_le _ _ _ _ (by omega) (by omega), if_neg (by omega), gr_30_6, ga_34 (by omega), hm.2.2.2.1, gI_lit 16, gI_mul, gI_mul, gI_add, gI_add, gI_lit 256, gI_add, show 16 * v + r * V.2.2.1 + (col + c) = 16 * v + (r * V.2.2.1 + (col + c)) by omega, gc_30, e1, gk_ca_some, gk_let_eq, gk_let_eq, show gI (k0 + c) + (1 : Int32) = gI (k0 + (c + 1)) from gI_pl _ _, gI_pl, q1]
    exact ⟨T2, rfl, (e2.le fun _ _ z => mCl_st (by omega) z).trans q2, q3.trans (mCl_b e2), q4, q5⟩
theorem sec_div {wi q c : Nat} (hc : c < wi) : (q * wi + c) / wi = q ∧ (q * wi + c) % wi = c := by
  constructor
  · rw [Nat.mul_comm, Nat.mul_add_div (by omega), Nat.div_eq_of_lt hc, Nat.add_zero]
  · rw [Nat.mul_comm, Nat.mul_add_mod, Nat.mod_eq_of_lt hc]
theorem m_part {v row col hi wi : Nat} (hm : mv S v V) (hv : v < 16) (h1 : 1 ≤ hi) (h2 : 1 ≤ wi) (hr : row + hi ≤ V.2.1) (hc : col + wi ≤ V.2.2.1) : ∃ T, f_M_part (some 30) (gI v) (gI row) (gI (row + hi)) (gI col) (gI (col + wi)) (gv_ov h S) = some ((), gv_ov h T) ∧ mX mSt S T ∧ T.1 30 11 = S.1 30 11 ∧ mv T 16 (sp_sec V row col hi wi false) := by
  obtain ⟨l1, l2⟩ := hm.sh
  have h16 := hm.1.2.2.1
  have hhw : hi * wi ≤ 16 := Nat.le_trans (Nat.mul_le_mul (show hi ≤ V.2.1 by omega) (show wi ≤ V.2.2.1 by omega)) h16
  have eC : ∀ q c, c < wi → (sp_sec V row col hi wi false).2.2.2 (q * wi + c) = V.2.2.2 ((row + q) * V.2.2.1 + (col + c)) := fun q c hc' => by
    obtain ⟨d1, d2⟩ := sec_div (q := q) hc'
    show V.2.2.2 ((row + (if false = true then _ else (q * wi + c) / wi)) * V.2.2.1 + (col + (if false = true then _ else (q * wi + c) % wi))) = _
    rw [if_neg (by decide), if_neg (by decide), d1, d2]
  have hok : ∀ j, j < hi * wi → gp_okC ((sp_sec V row col hi wi false).2.2.2 j) := fun j hj => by
    have hd := Nat.div_add_mod j wi
    rw [Nat.mul_comm] at hd
    have hmod := Nat.mod_lt j (show wi > 0 by omega)
    have hq : j / wi < hi := (Nat.div_lt_iff_lt_mul (by omega)).mpr hj
    rw [← hd, eC (j / wi) (j % wi) hmod]
    refine hm.1.2.2.2.1 _ ?_
    have h3 := Nat.mul_le_mul_right V.2.2.1 (show row + j / wi + 1 ≤ V.2.1 by omega)
    rw [Nat.add_mul (row + j / wi) 1, Nat.one_mul] at h3
    omega
  have loop : ∀ (m q fu : Nat) (T : gv_S), q + m = hi → m < fu → mv T v V → mSec T (sp_sec V row col hi wi false).2.2.2 (fun j => j < q * wi) → ∃ T', f_M_part_b6 fu (some 30) (gI v) (gI row) (gI (row + hi)) (gI col) (gI (col + wi)) (gI (q * wi)) (gI (row + q)) (gv_ov h T) = some ((), gv_ov h T') ∧ mX mSt T T' ∧ T'.1 30 11 = T.1 30 11 ∧ mv T' 16 (sp_sec V row col hi wi false) := by
    intro m
    induction m with
    | zero =>
      intro q fu T hq hf hm a
      obtain ⟨fu, rfl⟩ : ∃ g, fu = g + 1 := ⟨fu - 1, by omega⟩
      have eq : q = hi := by omega
      subst eq
      rw [f_M_part_b6]
      dsimp only
      rw [ite_le _ _ _ _ (by omega) (by omega), if_pos (Nat.le_refl _), gI_lit 16, gr_30_4, gt_32 (by decide), gr_30_5, gt_33 (by decide), gr_30_6, gt_34 (by decide), gI_sub _ _ (by omega), gI_sub _ _ (by omega), show row + q - row = q by omega, show col + wi - col = wi by omega]
      refine ⟨_, rfl, mSec_st _ _, ?_, mSec.mv q wi h1 h2 hhw hok a⟩
      simp (disch := (first | omega | assumption | exact fd_0_n | exact fd_53_n | exact fd_m53_n)) only [gu_I1, gu_I2, gu_I3, gu_I4, gu_D1, gu_D2, gu_D3, gu_D4]
    | succ m ih =>
      intro q fu T hq hf hm a
      obtain ⟨fu, rfl⟩ : ∃ g, fu = g + 1 := ⟨fu - 1, by omega⟩
      have hqw : (q + 1) * wi ≤ hi * wi := Nat.mul_le_mul_right _ (by omega)
      rw [Nat.add_mul, Nat.one_mul] at hqw
      obtain ⟨T1, e1, e2, e3, e4, e5⟩ := mpt_16 (h := h) (V := V) (C := (sp_sec V row col hi wi false).2.2.2) (v := v) (row := row) (col := col) (hi := hi) (wi := wi) (r := row + q) (k0 := q * wi) (f_M_part_b6 fu) (gI row) (gI (row + hi)) hv (by omega) hc (by omega) (fun j _ h4 => hok j (by omega)) (fun c hc' => eC q c hc') wi 0 gk_F T (Nat.zero_add _) (by unfold gk_F; omega) hm a
      rw [Nat.add_zero, Nat.add_zero] at e1
      have e5' : mSec T1 (sp_sec V row col hi wi false).2.2.2 (fun j => j < (q + 1) * wi) := fun j h3 h4 => e5 j h3 (by rw [Nat.add_mul, Nat.one_mul] at h4; exact h4)
      obtain ⟨T2, q1, q2, q3, q4⟩ := ih (q + 1) fu T1 (by omega) (by omega) e4 e5'
      rw [f_M_part_b6]
      dsimp only
      rw [ite_le _ _ _ _ (by omega) (by omega), if_neg (by omega), e1, show q * wi + wi = (q + 1) * wi by rw [Nat.add_mul, Nat.one_mul], show row + q + 1 = row + (q + 1) by omega, q1]
      exact ⟨T2, rfl, e2.trans q2, q3.trans e3, q4⟩
  have := loop hi 0 gk_F S (Nat.zero_add _) (by unfold gk_F; omega) hm (fun j _ hj => absurd hj (by omega))
  rw [Nat.zero_mul, Nat.add_zero] at this
  exact this
end MMT
