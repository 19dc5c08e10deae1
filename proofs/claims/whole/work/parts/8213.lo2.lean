/-! THE PURE PART: lookups, the answer (class) -/
def sp_wt (c : gp_C) : gp_C := if c.1 = 0 then gc_n 0 else c
def sp_fs (w : gp_C) (L : Nat → gp_C) : Nat → Nat → Option Nat
  | 0, _ => none
  | m + 1, k => if (L k).1 = w.1 ∧ (if w.1 = 2 then lk false (lk_tk w.2.2.2) (L k).2.2.2 = true else sp_ord (L k) w = 0) then some k else sp_fs w L m (k + 1)
def sp_lb (w : gp_C) (L : Nat → gp_C) (up : Bool) : Nat → Nat → Option Nat → Option Nat
  | 0, _, la => la
  | m + 1, k, la => if (L k).1 = w.1 then (if (if up = true then 0 < sp_ord (L k) w else sp_ord (L k) w < 0) then la else sp_lb w L up m (k + 1) (some k)) else sp_lb w L up m (k + 1) la
def sp_pl (w : gp_C) (L : Nat → gp_C) (n : Nat) (ma : Int) : Option Nat := if ma = 0 then sp_fs w L n 0 else sp_lb w L (decide (0 < ma)) n 0 none
def oI (r : Option Nat) : Int32 := match r with
  | none => (-1 : Int32)
  | some p => gI p
theorem sp_fs_b (w : gp_C) (L : Nat → gp_C) : ∀ (m k q : Nat), sp_fs w L m k = some q → q < k + m
  | 0, _, _, h => by cases h
  | m + 1, k, q, h => by
    rw [sp_fs] at h
    by_cases z : (L k).1 = w.1 ∧ (if w.1 = 2 then lk false (lk_tk w.2.2.2) (L k).2.2.2 = true else sp_ord (L k) w = 0)
    · rw [if_pos z] at h
      cases h
      omega
    · rw [if_neg z] at h
      have := sp_fs_b w L m (k + 1) q h
      omega
theorem sp_lb_b (w : gp_C) (L : Nat → gp_C) (up : Bool) : ∀ (m k q : Nat) (la : Option Nat), (∀ x, la = some x → x < k) → sp_lb w L up m k la = some q → q < k + m
  | 0, k, q, la, h0, h => by
    have := h0 q h
    omega
  | m + 1, k, q, la, h0, h => by
    rw [sp_lb] at h
    by_cases z : (L k).1 = w.1
    · rw [if_pos z] at h
      by_cases z2 : (if up = true then 0 < sp_ord (L k) w else sp_ord (L k) w < 0)
      · rw [if_pos z2] at h
        have := h0 q h
        omega
      · rw [if_neg z2] at h
        have := sp_lb_b w L up m (k + 1) q (some k) (fun x hx => by cases hx; omega) h
        omega
    · rw [if_neg z] at h
      have := sp_lb_b w L up m (k + 1) q la (fun x hx => by have := h0 x hx; omega) h
      omega
theorem sp_pl_b {w : gp_C} {L : Nat → gp_C} {n q : Nat} {ma : Int} (h : sp_pl w L n ma = some q) : q < n := by
  unfold sp_pl at h
  split at h
  · have := sp_fs_b w L n 0 q h
    omega
  · have := sp_lb_b w L _ n 0 q none (fun x hx => by cases hx) h
    omega
section LO2
variable {b n : Nat} {h : gk_H} {S : gv_S} {vs : Nat → gp_V} {f : Nat} {row : List UInt64} {j i : Nat} {l t : List Nat}
theorem li_cv {T : gv_S} {α β : Type} (x : Option (α × gk_H)) (K : α → gk_H → Option β) : gk_cv (gv_ov h T) (some 26) 3 x K = gk_ca x K := gc_26 x K
theorem k_firstSame (hs : gp_st h) {w : gp_C} {L : gp_V} (hw : gp_cell b h i w) (hL : gp_val b h j L) (T : gv_S) : ∃ T', f_Lo_firstSame (some i) (some j) (some 26) (gv_ov h T) = some (oI (sp_fs w L.2.2.2 (cellsN L) 0), gv_ov h T') ∧ mX mLk T T' := by
  obtain ⟨s, s1, s2⟩ := fl_3 hw.2
  have hwl := hw.1.2.2.2.2.2.2.2.2.1
  have h16 : cellsN L ≤ 16 := hL.1.2.2.1
  obtain ⟨cs, fv⟩ := hL.fld
  have hw4 := hw.1.1
  obtain ⟨T1, p1, p2, p3⟩ := l_prepare hs s1 hwl T
  have loop : ∀ (m k fu : Nat) (T : gv_S), k + m = cellsN L → m < fu → lkM T (lk_tk w.2.2.2) → ∃ T', f_Lo_firstSame_b10 fu (some i) (some j) (some 26) (gI k) (gv_ov h T) = some (oI (sp_fs w L.2.2.2 m k), gv_ov h T') ∧ mX mLk T T' := by
    intro m
    induction m with
    | zero =>
      intro k fu T hk hf hM
      obtain ⟨fu, rfl⟩ : ∃ f, fu = f + 1 := ⟨fu - 1, by omega⟩
      have hk' := hk
      unfold cellsN at hk' h16
      rw [f_Lo_firstSame_b10]
      dsimp only
      rw [fl_cv fv, v_many hL, gk_ca_some, ite_le _ _ _ _ (by omega) (by omega), if_pos (by omega)]
      exact ⟨T, rfl, mX.refl _ _⟩
    | succ m ih =>
      intro k fu T hk hf hM
      obtain ⟨fu, rfl⟩ : ∃ f, fu = f + 1 := ⟨fu - 1, by omega⟩
      have hk' := hk
      unfold cellsN at hk' h16
      obtain ⟨x, x1, x2⟩ := v_at (S := T) hL k (by omega)
      have hx4 := x2.1.1
      obtain ⟨u, u1, u2⟩ := fl_3 x2.2
      rw [f_Lo_firstSame_b10, sp_fs]
      unfold f_Lo_firstSame_b72 f_Lo_firstSame_b81
      dsimp only
      rw [fl_cv fv, v_many hL, gk_ca_some, ite_le _ _ _ _ (by omega) (by omega), if_neg (by omega), fl_cv fv, x1, gk_ca_some, fl_0 x2.2, fl_0 hw.2, fl_0 x2.2, ite_eq _ _ _ _ (by omega) (by omega), gI_lit 2, ite_eq _ _ _ _ (by omega) (by decide), gk_let_eq, show gI k + (1 : Int32) = gI (k + 1) from gI_add k 1]
      by_cases z : (L.2.2.2 k).1 = w.1
      · rw [if_pos z]
        by_cases z2 : (L.2.2.2 k).1 = 2
        · have hxl := x2.1.2.2.2.2.2.2.2.2.1
          obtain ⟨T', m1, m2, m3⟩ := l_met (h := h) hs u1 hxl _ (Nat.le_trans (lk_tk_len _) hwl) (lk_tk_b _ (ok_t128 hw.1)) T hM
          rw [if_pos z2, u2, li_cv, m1, gk_ca_some, ite_B]
          by_cases z3 : lk false (lk_tk w.2.2.2) (L.2.2.2 k).2.2.2 = true
          · rw [if_pos z3, if_pos (show (L.2.2.2 k).1 = w.1 ∧ (if w.1 = 2 then lk false (lk_tk w.2.2.2) (L.2.2.2 k).2.2.2 = true else sp_ord (L.2.2.2 k) w = 0) from ⟨z, by rw [if_pos (by omega)]; exact z3⟩)]
            exact ⟨T', rfl, m2⟩
          · obtain ⟨T2, q1, q2⟩ := ih (k + 1) fu T' (by omega) (by omega) m3
            rw [if_neg z3, gk_let_eq, if_neg (fun w' => z3 (by have := w'.2; rw [if_pos (by omega)] at this; exact this))]
            exact ⟨T2, q1, m2.trans q2⟩
        · have ob := sp_ord_b x2.1 hw.1
          have z0 : ∀ {β : Type} (x y : β), (if gN (sp_ord (L.2.2.2 k) w) = (0 : Int32) then x else y) = if sp_ord (L.2.2.2 k) w = 0 then x else y := fun x y => nte_eq x y _ 0 (by omega) (by omega) (by decide) (by decide)
          rw [if_neg z2, o_order hs x2 hw, gk_ca_some, z0]
          by_cases z3 : sp_ord (L.2.2.2 k) w = 0
          · rw [if_pos z3, if_neg (by decide), if_pos (show (L.2.2.2 k).1 = w.1 ∧ (if w.1 = 2 then lk false (lk_tk w.2.2.2) (L.2.2.2 k).2.2.2 = true else sp_ord (L.2.2.2 k) w = 0) from ⟨z, by rw [if_neg (by omega)]; exact z3⟩)]
            exact ⟨T, rfl, mX.refl _ _⟩
          · rw [if_neg z3, if_pos rfl, gk_let_eq, if_neg (fun w' => z3 (by have := w'.2; rw [if_neg (by omega)] at this; exact this))]
            exact ih (k + 1) fu T (by omega) (by omega) hM
      · rw [if_neg z, if_neg (fun w' => z w'.1)]
        exact ih (k + 1) fu T (by omega) (by omega) hM
  obtain ⟨T2, q1, q2⟩ := loop _ 0 gk_F T1 (Nat.zero_add _) (by unfold gk_F; omega) p3
  unfold f_Lo_firstSame
  rw [s2, li_cv, p1, gk_ca_some]
  exact ⟨T2, q1, p2.trans q2⟩
theorem k_lastBefore (hs : gp_st h) {w : gp_C} {L : gp_V} (hw : gp_cell b h i w) (hL : gp_val b h j L) (up : Bool) (T : gv_S) : f_Lo_lastBefore (some i) (some j) (if up = true then (1 : Int32) else (-1 : Int32)) (gv_ov h T) = some (oI (sp_lb w L.2.2.2 up (cellsN L) 0 none), gv_ov h T) := by
  have h16 : cellsN L ≤ 16 := hL.1.2.2.1
  obtain ⟨cs, fv⟩ := hL.fld
  have hw4 := hw.1.1
  have loop : ∀ (m k fu : Nat) (la : Option Nat), k + m = cellsN L → m < fu → f_Lo_lastBefore_b5 fu (some i) (some j) (if up = true then (1 : Int32) else (-1 : Int32)) (oI la) (gI k) (gv_ov h T) = some (oI (sp_lb w L.2.2.2 up m k la), gv_ov h T) := by
    intro m
    induction m with
    | zero =>
      intro k fu la hk hf
      obtain ⟨fu, rfl⟩ : ∃ f, fu = f + 1 := ⟨fu - 1, by omega⟩
      have hk' := hk
      unfold cellsN at hk' h16
      rw [f_Lo_lastBefore_b5]
      dsimp only
      rw [fl_cv fv, v_many hL, gk_ca_some, ite_le _ _ _ _ (by omega) (by omega), if_pos (by omega)]
      rfl
    | succ m ih =>
      intro k fu la hk hf
      obtain ⟨fu, rfl⟩ : ∃ f, fu = f + 1 := ⟨fu - 1, by omega⟩
      have hk' := hk
      unfold cellsN at hk' h16
      obtain ⟨x, x1, x2⟩ := v_at (S := T) hL k (by omega)
      have hx4 := x2.1.1
      have ob := sp_ord_b x2.1 hw.1
      have zt : ∀ {β : Type} (x y : β), (if gN (sp_ord (L.2.2.2 k) w) * (if up = true then (1 : Int32) else (-1 : Int32)) ≤ (0 : Int32) then x else y) = if (if up = true then 0 < sp_ord (L.2.2.2 k) w else sp_ord (L.2.2.2 k) w < 0) then y else x := by
        intro β x y
        have e : gN (sp_ord (L.2.2.2 k) w) * (if up = true then (1 : Int32) else (-1 : Int32)) = gN (if up = true then sp_ord (L.2.2.2 k) w else - sp_ord (L.2.2.2 k) w) := by
          cases up
          · rw [if_neg (show ¬ false = true from by decide), if_neg (show ¬ false = true from by decide), gI_m1B, gN_mul, Int.mul_neg, Int.mul_one]
          · rw [if_pos rfl, if_pos rfl, show (1 : Int32) = gN 1 from rfl, gN_mul, Int.mul_one]
        rw [e, show (0 : Int32) = gN 0 from rfl]
        cases up
        · rw [if_neg (show ¬ false = true from by decide), nte_le _ _ _ _ (by omega) (by omega) (by decide) (by decide)]
          by_cases z : sp_ord (L.2.2.2 k) w < 0
          · rw [if_neg (by omega), if_pos (show (if false = true then 0 < sp_ord (L.2.2.2 k) w else sp_ord (L.2.2.2 k) w < 0) from z)]
          · rw [if_pos (by omega), if_neg (show ¬ (if false = true then 0 < sp_ord (L.2.2.2 k) w else sp_ord (L.2.2.2 k) w < 0) from z)]
        · rw [if_pos rfl, nte_le _ _ _ _ (by omega) (by omega) (by decide) (by decide)]
          by_cases z : 0 < sp_ord (L.2.2.2 k) w
          · rw [if_neg (by omega), if_pos (show (if true = true then 0 < sp_ord (L.2.2.2 k) w else sp_ord (L.2.2.2 k) w < 0) from z)]
          · rw [if_pos (by omega), if_neg (show ¬ (if true = true then 0 < sp_ord (L.2.2.2 k) w else sp_ord (L.2.2.2 k) w < 0) from z)]
      rw [f_Lo_lastBefore_b5, sp_lb]
      unfold f_Lo_lastBefore_b50
      dsimp only
      rw [fl_cv fv, v_many hL, gk_ca_some, ite_le _ _ _ _ (by omega) (by omega), if_neg (by omega), fl_cv fv, x1, gk_ca_some, fl_0 x2.2, fl_0 hw.2, ite_eq _ _ _ _ (by omega) (by omega), o_order hs x2 hw, gk_ca_some, zt, gk_let_eq, gk_let_eq, show gI k + (1 : Int32) = gI (k + 1) from gI_add k 1]
      by_cases z : (L.2.2.2 k).1 = w.1
      · rw [if_pos z, if_pos z]
        by_cases z2 : (if up = true then 0 < sp_ord (L.2.2.2 k) w else sp_ord (L.2.2.2 k) w < 0)
        · rw [if_pos z2, if_pos z2]
        · rw [if_neg z2, if_neg z2]
          exact ih (k + 1) fu (some k) (by omega) (by omega)
      · rw [if_neg z, if_neg z]
        exact ih (k + 1) fu la (by omega) (by omega)
  exact loop _ 0 gk_F none (Nat.zero_add _) (by unfold gk_F; omega)
theorem k_placeOf (hs : gp_st h) {w : gp_C} {L : gp_V} (hw : gp_cell b h i w) (hL : gp_val b h j L) (ma : Int) (hm : -9007199254740992 < ma ∧ ma < 9007199254740992) (T : gv_S) : ∃ T', f_Lo_placeOf (some i) (some j) (gJ ma) (some 26) (gv_ov h T) = some (oI (sp_pl w L.2.2.2 (cellsN L) ma), gv_ov h T') ∧ mX mLk T T' := by
  unfold f_Lo_placeOf f_Lo_placeOf_b27 sp_pl
  simp only [ca_id]
  rw [show (0 : Int64) = gJ 0 from gJl_0, jte_eq _ _ _ _ (by omega) (by omega) (by omega) (by omega), jte_le _ _ _ _ (by omega) (by omega) (by omega) (by omega)]
  by_cases z : ma = 0
  · rw [if_pos z, if_pos z]
    exact k_firstSame hs hw hL T
  · rw [if_neg z, if_neg z]
    by_cases z2 : ma ≤ 0
    · rw [if_pos z2, decide_eq_false (show ¬ 0 < ma by omega)]
      exact ⟨T, k_lastBefore hs hw hL false T, mX.refl _ _⟩
    · rw [if_neg z2, decide_eq_true (show 0 < ma by omega)]
      exact ⟨T, k_lastBefore hs hw hL true T, mX.refl _ _⟩
theorem k_wanted (a : ga b h S vs n) (hc : gp_cs b h) (hn : 1 ≤ n) : ∃ r h', f_Lo_wanted (some 20) (gv_ov h (gA S 0 row)) = some (some r, gv_ov h' (gA S (sp_err (sp_1 (vs 0))) row)) ∧ gp_cell b h' r (sp_wt (sp_1 (vs 0))) ∧ gp_ext 1 7 h h' := by
  obtain ⟨j, j1, j2⟩ := a_soundE (f := 0) (row := row) a 0 (by omega) (by omega)
  have j1' : f_Ar_sound (some 20) (0 : Int32) (gv_ov h (gA S 0 row)) = some (some j, gv_ov h (gA S (sp_err (sp_1 (vs 0))) row)) := j1
  have h4 := j2.1.1
  unfold f_Lo_wanted f_Lo_wanted_b21 sp_wt
  simp only [ca_id]
  have z0 : ∀ {β : Type} (x y : β), (if gI (sp_1 (vs 0)).1 = (0 : Int32) then x else y) = if (sp_1 (vs 0)).1 = 0 then x else y := fun x y => ite_eq x y _ 0 (by omega) (by decide)
  rw [gc_20, j1', gk_ca_some, fl_0 j2.2, z0]
  by_cases z : (sp_1 (vs 0)).1 = 0
  · rw [if_pos z, if_pos z]
    exact vr_n hc fd_f0
  · rw [if_neg z, if_neg z]
    exact ⟨j, h, rfl, j2, (gp_ext.refl h).le (by decide) (by decide)⟩
def sp_fdE (e : Nat) (r : Option Nat) : gp_C := match r with
  | none => gc_e e
  | some p => gc_n (FP.i2d (gI (p + 1)))
theorem cR.mX {T : gv_S} {e k s k' s' : Nat} {h' : gk_H} {x : Option (Option Nat × gk_H)} {V : gp_V} (he : gp_ext k s h h') (hT : mX mLk (gA S e row) T) (h8 : e ≤ 8) (q : ∃ r h2, x = some (some r, gv_ov h2 T) ∧ gp_val b h2 r V ∧ gp_ext k' s' h' h2) : cR b h S x (sxV e V) (k + k') (s + s') := by
  obtain ⟨r, h2, q1, q2, q3⟩ := q
  have sT := gA_self hT
  refine ⟨r, h2, T, e, row, V, ?_, q2, he.trans q3, gA_mX hT, h8, rfl⟩
  rw [← sT]
  exact q1
theorem vR.val {x : Option (Option Nat × gk_H)} {c : gp_C} {T : gv_S} (q : vR b h T x c) : ∃ r h2, x = some (some r, gv_ov h2 T) ∧ gp_val b h2 r (gV_1 c) ∧ gp_ext 1 7 h h2 := by
  obtain ⟨r, h2, q1, q2, q3⟩ := q
  exact ⟨r, h2, q1, q2.val, q3⟩
def sp_mat (vs : Nat → gp_V) (n : Nat) : gp_C := if (vs 1).2.1 = 1 ∨ (vs 1).2.2.1 = 1 then sp_fdE 7 (sp_pl (sp_wt (sp_1 (vs 0))) (vs 1).2.2.2 (cellsN (vs 1)) (oX vs n 2)) else gc_e 7
theorem k_match (a : ga b h S vs n) (hc : gp_cs b h) (hn : 2 ≤ n) : cR b h S (f_Lo_match (some 20) (gv_ov h (gA S 0 row))) (gV_1 (sx (bl (sp_err (sp_1 (vs 0))) (oW vs n 2)) (sp_mat vs n))) 2 14 := by
  obtain ⟨r, h1, r1, r2, r3⟩ := k_wanted (row := row) a hc (by omega)
  have he1 := sp_err_le (sp_1_ok (a.ok 0 (by omega)))
  have a1 := a.ext r3
  have hc1 := hc.ext r3
  obtain ⟨L, L1, L2⟩ := a_raw (f := sp_err (sp_1 (vs 0))) (row := row) a1 1 (by omega)
  obtain ⟨o1, o2, o3⟩ := oX_b a 2
  have L1' : f_Ar_raw (some 20) (1 : Int32) (gv_ov h1 (gA S (sp_err (sp_1 (vs 0))) row)) = _ := L1
  have ho : f_Ar_wholeOr (some 20) (2 : Int32) (1 : Int64) (gv_ov h1 (gA S (sp_err (sp_1 (vs 0))) row)) = _ := a_or1 (row := row) a1 hc1.1 2 (by omega) he1
  have hE := bl_le he1 o3
  obtain ⟨cs, fv⟩ := L2.fld
  unfold f_Lo_match f_Lo_match_b65
  simp only [ca_id]
  rw [r1, gk_ca_some, gc_20, L1', gk_ca_some, gc_20, ho, gk_ca_some, fl_cv fv, v_line L2, gk_ca_some, ← sxV_1]
  generalize bl (sp_err (sp_1 (vs 0))) (oW vs n 2) = E at hE ⊢
  unfold sp_mat
  by_cases z : (vs 1).2.1 = 1 ∨ (vs 1).2.2.1 = 1
  · obtain ⟨T, t1, t2⟩ := k_placeOf hc1.1 r2 L2 (oX vs n 2) ⟨o1, o2⟩ (gA S E row)
    have h16 : cellsN (vs 1) ≤ 16 := L2.1.2.2.1
    rw [if_pos z, if_pos z, if_neg (by decide), gr_20_8, t1, gk_ca_some]
    refine cR.mX (k' := 1) (s' := 7) r3 t2 hE ?_
    cases e : sp_pl (sp_wt (sp_1 (vs 0))) (vs 1).2.2.2 (cellsN (vs 1)) (oX vs n 2) with
    | none =>
      rw [if_pos (show oI none = (-1 : Int32) from rfl)]
      exact vR.val (vr_err hc1 7 (by decide) (by decide))
    | some p =>
      have := sp_pl_b e
      rw [show oI (some p) = gI p from rfl, gN_m1 (by omega), show gI p + (1 : Int32) = gI (p + 1) from gI_add p 1]
      exact vR.val (vr_n hc1 (fd_i2df _))
  · rw [if_neg z, if_neg z, if_pos rfl]
    exact cR.mX r3 (mX.refl _ _) hE (vR.val (vr_err hc1 7 (by decide) (by decide)))
/-- whether rows rise: the fourth argument -/
def oT (vs : Nat → gp_V) (n k : Nat) : Bool := if k < n then (sp_tru (sp_1 (vs k))).2 else true
def oTe (vs : Nat → gp_V) (n k : Nat) : Nat := if k < n then (sp_tru (sp_1 (vs k))).1 else 0
def sp_lu (vs : Nat → gp_V) (n : Nat) (V : gp_V) : gp_C := if sw_x vs 2 < 1 then gc_e 3 else if (V.2.2.1 : Int) < sw_x vs 2 then gc_e 4 else match sp_pl (sp_wt (sp_1 (vs 0))) (fun p => V.2.2.2 (p * V.2.2.1)) V.2.1 (if oT vs n 3 = true then 1 else 0) with
  | none => gc_e 7
  | some p => V.2.2.2 (p * V.2.2.1 + ((sw_x vs 2).toNat - 1))
theorem k_lookedUp (a : ga b h S vs n) (hc : gp_cs b h) (hn : 3 ≤ n) {V : gp_V} (hv : gp_val b h i V) : cR b h S (f_Lo_lookedUp (some 20) (some i) (gv_ov h (gA S 0 row))) (gV_1 (sx (bl (bl (sp_err (sp_1 (vs 0))) (sW vs 2)) (oTe vs n 3)) (sp_lu vs n V))) 4 37 := by
  obtain ⟨r, h1, r1, r2, r3⟩ := k_wanted (row := row) a hc (by omega)
  have he1 := sp_err_le (sp_1_ok (a.ok 0 (by omega)))
  have a1 := a.ext r3
  have hc1 := hc.ext r3
  have hv1 := hv.ext r3
  obtain ⟨w1, w2, w3⟩ := a.sW (k := 2) (by omega)
  have e2 : f_Ar_whole (some 20) (2 : Int32) (gv_ov h1 (gA S (sp_err (sp_1 (vs 0))) row)) = _ := a_wholeW a1 hc1.1 2 (by omega) he1
  have hE1 := bl_le he1 w1
  have ht : f_Ar_truthOr (some 20) (3 : Int32) (1 : Int32) (gv_ov h1 (gA S (bl (sp_err (sp_1 (vs 0))) (sW vs 2)) row)) = some (gB (oT vs n 3), gv_ov h1 (gA S (bl (bl (sp_err (sp_1 (vs 0))) (sW vs 2)) (oTe vs n 3)) row)) := by
    have := a_truthOr (row := row) a1 hc1 3 (by omega) true hE1
    have e : (if 3 < n then bl (bl (sp_err (sp_1 (vs 0))) (sW vs 2)) (sp_tru (sp_1 (vs 3))).1 else bl (sp_err (sp_1 (vs 0))) (sW vs 2)) = bl (bl (sp_err (sp_1 (vs 0))) (sW vs 2)) (oTe vs n 3) := by
      unfold oTe
      split
      · rfl
      · rw [bl_0]
    rw [e] at this
    exact this
  have hTe : oTe vs n 3 ≤ 8 := by
    unfold oTe
    split
    · rename_i z
      exact sp_tru_le (sp_1_ok (a.ok 3 z))
    · exact Nat.zero_le _
  have hE := bl_le hE1 hTe
  obtain ⟨cs, fv⟩ := hv1.fld
  obtain ⟨g1, g2⟩ := gp_ok16 hv.1
  unfold f_Lo_lookedUp
  rw [r1, gk_ca_some, gc_20, e2, gk_ca_some, gc_20, ht, gk_ca_some, ite_B, ← sxV_1]
  generalize bl (bl (sp_err (sp_1 (vs 0))) (sW vs 2)) (oTe vs n 3) = E at hE ⊢
  have core : ∀ ma : Int, ma = (if oT vs n 3 = true then 1 else 0) → cR b h S (f_Lo_lookedUp_b25 (some 20) (some i) (some r) (gJ (sw_x vs 2)) (gJ ma) (gv_ov h1 (gA S E row))) (sxV E (gV_1 (sp_lu vs n V))) 4 37 := by
    intro ma hma
    have hmb : -9007199254740992 < ma ∧ ma < 9007199254740992 := by rw [hma]; split <;> omega
    unfold f_Lo_lookedUp_b25 f_Lo_lookedUp_b105 sp_lu
    simp only [ca_id]
    rw [← hma, show (1 : Int64) = gJ 1 from gJl_1, jte_ge _ _ _ _ (by omega) (by omega) (by omega) (by omega), fl_5 fv, gI_toJ _ (by omega), jte_le _ _ _ _ (by omega) (by omega) (by omega) (by omega)]
    by_cases z1 : sw_x vs 2 < 1
    · rw [if_neg (show ¬ (1 : Int) ≤ sw_x vs 2 by omega), if_pos z1]
      exact (cR.mX r3 (mX.refl _ _) hE (vR.val (vr_err hc1 3 (by decide) (by decide)))).le (by decide) (by decide)
    · rw [if_pos (show (1 : Int) ≤ sw_x vs 2 by omega), if_neg z1]
      by_cases z2 : (V.2.2.1 : Int) < sw_x vs 2
      · rw [if_neg (show ¬ sw_x vs 2 ≤ (V.2.2.1 : Int) by omega), if_pos z2]
        exact (cR.mX r3 (mX.refl _ _) hE (vR.val (vr_err hc1 4 (by decide) (by decide)))).le (by decide) (by decide)
      · obtain ⟨L, h2, L1, L2, L3⟩ := k_section (S := gA S E row) hc1 hv1 0 0 V.2.1 1 (by have := hv.1.1; omega) (Nat.le_refl _) (by omega) (by have := hv.1.2.1; omega) false
        have L1' : f_Lo_section (some i) (0 : Int32) (0 : Int32) (gI V.2.1) (1 : Int32) (0 : Int32) (gv_ov h1 (gA S E row)) = some (some L, gv_ov h2 (gA S E row)) := L1
        have e12 := r3.trans L3
        have hc2 := hc.ext e12
        have eN : cellsN (sp_sec V 0 0 V.2.1 1 false) = V.2.1 := by
          show V.2.1 * 1 = V.2.1
          omega
        have eL : (sp_sec V 0 0 V.2.1 1 false).2.2.2 = fun p => V.2.2.2 (p * V.2.2.1) := by
          funext p
          show V.2.2.2 ((0 + p / 1) * V.2.2.1 + (0 + p % 1)) = V.2.2.2 (p * V.2.2.1)
          rw [Nat.zero_add, Nat.div_one, Nat.mod_one, Nat.add_zero]
        obtain ⟨T, t1, t2⟩ := k_placeOf hc2.1 (r2.ext L3) L2 ma hmb (gA S E row)
        rw [eN, eL] at t1
        rw [if_pos (show sw_x vs 2 ≤ (V.2.2.1 : Int) by omega), if_neg z2, fl_4 fv, L1', gk_ca_some, gr_20_8, t1, gk_ca_some]
        have hv2 := hv1.ext L3
        obtain ⟨cs2, fv2⟩ := hv2.fld
        refine (cR.mX (k' := 1) (s' := 7) e12 t2 hE ?_).le (by decide) (by decide)
        cases e : sp_pl (sp_wt (sp_1 (vs 0))) (fun p => V.2.2.2 (p * V.2.2.1)) V.2.1 ma with
        | none =>
          rw [if_pos (show oI none = (-1 : Int32) from rfl)]
          exact vR.val (vr_err hc2 7 (by decide) (by decide))
        | some p =>
          have hp := sp_pl_b e
          obtain ⟨x, x1, x2⟩ := v_in (S := T) hv2 p ((sw_x vs 2).toNat - 1) hp (by omega)
          rw [show oI (some p) = gI p from rfl, gN_m1 (by omega), fl_cv fv2, gJ_nI (by omega) (by omega), show gI (sw_x vs 2).toNat - (1 : Int32) = gI ((sw_x vs 2).toNat - 1) from gI_sub _ 1 (by omega), x1, gk_ca_some]
          exact ⟨x, h2, rfl, x2.val, (gp_ext.refl h2).le (by decide) (by decide)⟩
  by_cases z : oT vs n 3 = true
  · rw [if_pos z, show (1 : Int64) = gJ 1 from gJl_1]
    exact core 1 (by rw [if_pos z])
  · rw [if_neg z, show (0 : Int64) = gJ 0 from gJl_0]
    exact core 0 (by rw [if_neg z])
end LO2
