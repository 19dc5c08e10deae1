/-! THE PURE PART: the index, the lookups' answer (class) -/
def sp_ixV (V : gp_V) (r c : Int) : gp_V := if r < 0 ∨ c < 0 then gV_1 (gc_e 3) else if (V.2.1 : Int) < r ∨ (V.2.2.1 : Int) < c then gV_1 (gc_e 4) else if 0 < r ∧ 0 < c then gV_1 (V.2.2.2 ((r.toNat - 1) * V.2.2.1 + (c.toNat - 1))) else sp_sec V (if 0 < r then r.toNat - 1 else 0) (if 0 < c then c.toNat - 1 else 0) (if 0 < r then 1 else V.2.1) (if 0 < c then 1 else V.2.2.1) false
def oX0 (vs : Nat → gp_V) (n k : Nat) : Int := if k < n then sw_x vs k else 0
def sp_ix (vs : Nat → gp_V) (n : Nat) : gp_V := if n = 2 ∧ (vs 0).2.1 = 1 then sp_ixV (vs 0) 1 (sw_x vs 1) else if n = 2 ∧ (vs 0).2.2.1 = 1 then sp_ixV (vs 0) (sw_x vs 1) 1 else sp_ixV (vs 0) (sw_x vs 1) (oX0 vs n 2)
def sp_tp (V : gp_V) : gp_V := sp_sec V 0 0 V.2.1 V.2.2.1 true
def sp_lo (f : Nat) (vs : Nat → gp_V) (n : Nat) : gp_V :=
  if f = 74 then gV_1 (gc_n (FP.i2d (gI (vs 0).2.1)))
  else if f = 75 then gV_1 (gc_n (FP.i2d (gI (vs 0).2.2.1)))
  else if f = 76 then sxV (bl (sW vs 1) (oW vs n 2)) (sp_ix vs n)
  else if f = 77 then gV_1 (sx (bl (sp_err (sp_1 (vs 0))) (oW vs n 2)) (sp_mat vs n))
  else if f = 78 then gV_1 (sx (bl (bl (sp_err (sp_1 (vs 0))) (sW vs 2)) (oTe vs n 3)) (sp_lu vs n (vs 1)))
  else if f = 79 then gV_1 (sx (bl (bl (sp_err (sp_1 (vs 0))) (sW vs 2)) (oTe vs n 3)) (sp_lu vs n (sp_tp (vs 1))))
  else sp_tp (vs 0)
section LO3
variable {b n : Nat} {h : gk_H} {S : gv_S} {vs : Nat → gp_V} {f : Nat} {row : List UInt64} {j i : Nat} {l t : List Nat}
theorem k_transposed (hc : gp_cs b h) {V : gp_V} (hv : gp_val b h i V) : ∃ r h', f_Lo_transposed (some i) (gv_ov h S) = some (some r, gv_ov h' S) ∧ gp_val b h' r (sp_tp V) ∧ gp_ext 2 23 h h' := by
  obtain ⟨cs, fv⟩ := hv.fld
  have := k_section (S := S) hc hv 0 0 V.2.1 V.2.2.1 hv.1.1 hv.1.2.1 (by omega) (by omega) true
  unfold f_Lo_transposed
  simp only [ca_id]
  rw [fl_4 fv, fl_5 fv]
  exact this
theorem k_index63 (hc : gp_cs b h) {V : gp_V} (hv : gp_val b h i V) (r c : Int) (hr : -9007199254740992 < r ∧ r < 9007199254740992) (hcc : -9007199254740992 < c ∧ c < 9007199254740992) (T : gv_S) : ∃ x h2, f_Lo_index_b63 (some i) (gJ r) (gJ c) (gv_ov h T) = some (some x, gv_ov h2 T) ∧ gp_val b h2 x (sp_ixV V r c) ∧ gp_ext 2 23 h h2 := by
  obtain ⟨cs, fv⟩ := hv.fld
  obtain ⟨g1, g2⟩ := gp_ok16 hv.1
  have o1 := hv.1.1
  have o2 := hv.1.2.1
  have err : ∀ e : Nat, 1 ≤ e → e ≤ 8 → ∃ x h2, f_Va_ofError (gI e) (gv_ov h T) = some (some x, gv_ov h2 T) ∧ gp_val b h2 x (gV_1 (gc_e e)) ∧ gp_ext 2 23 h h2 := fun e he1 he2 => by
    obtain ⟨x, h2, q1, q2, q3⟩ := vR.val (vr_err (S := T) hc e he1 he2)
    exact ⟨x, h2, q1, q2, q3.le (by decide) (by decide)⟩
  have e3 := err 3 (by decide) (by decide)
  have e4 := err 4 (by decide) (by decide)
  have z0 : ∀ (x : Int), -9007199254740992 < x ∧ x < 9007199254740992 → ∀ {β : Type} (p q : β), (if lg_cmp (gJ x) (0 : Int64) ≤ (0 : Int32) then p else q) = if 0 < x then q else p := fun x hx _ p q => by
    rw [show (0 : Int64) = gJ 0 from gJl_0, jte_le _ _ _ _ (by omega) (by omega) (by omega) (by omega)]
    by_cases z : 0 < x
    · rw [if_pos z, if_neg (by omega)]
    · rw [if_neg z, if_pos (by omega)]
  unfold f_Lo_index_b63 f_Lo_index_b76 f_Lo_index_b102 f_Lo_index_b134 f_Lo_index_b149 f_Lo_index_b165 f_Lo_index_b179 f_Lo_index_b194 sp_ixV
  simp only [ca_id, fl_4 fv, fl_5 fv, z0 r hr, z0 c hcc]
  rw [show (0 : Int64) = gJ 0 from gJl_0, jte_lt _ _ _ _ (by omega) (by omega) (by omega) (by omega), jte_ge _ _ _ _ (by omega) (by omega) (by omega) (by omega), gI_toJ _ (by omega), gI_toJ _ (by omega), jte_gt _ _ _ _ (by omega) (by omega) (by omega) (by omega), jte_le _ _ _ _ (by omega) (by omega) (by omega) (by omega)]
  by_cases y1 : r < 0
  · rw [if_pos y1, if_pos (Or.inl y1)]
    exact e3
  · by_cases y2 : c < 0
    · rw [if_neg y1, if_neg (show ¬ (0 : Int) ≤ c by omega), if_pos (Or.inr y2)]
      exact e3
    · rw [if_neg y1, if_pos (show (0 : Int) ≤ c by omega), if_neg (show ¬ (r < 0 ∨ c < 0) by omega)]
      by_cases y3 : (V.2.1 : Int) < r
      · rw [if_pos y3, if_pos (Or.inl y3)]
        exact e4
      · by_cases y4 : (V.2.2.1 : Int) < c
        · rw [if_neg y3, if_neg (show ¬ c ≤ (V.2.2.1 : Int) by omega), if_pos (Or.inr y4)]
          exact e4
        · rw [if_neg y3, if_pos (show c ≤ (V.2.2.1 : Int) by omega), if_neg (show ¬ ((V.2.1 : Int) < r ∨ (V.2.2.1 : Int) < c) by omega)]
          have er : 0 < r → Int64.toInt32 (gJ r) - (1 : Int32) = gI (r.toNat - 1) := fun q => by
            rw [gJ_nI (by omega) (by omega)]
            exact gI_sub _ 1 (by omega)
          have ec : 0 < c → Int64.toInt32 (gJ c) - (1 : Int32) = gI (c.toNat - 1) := fun q => by
            rw [gJ_nI (by omega) (by omega)]
            exact gI_sub _ 1 (by omega)
          by_cases y5 : 0 < r
          · by_cases y6 : 0 < c
            · obtain ⟨x, x1, x2⟩ := v_in (S := T) hv (r.toNat - 1) (c.toNat - 1) (by omega) (by omega)
              rw [if_pos y5, if_pos y6, if_pos (show 0 < r ∧ 0 < c from ⟨y5, y6⟩), fl_cv fv, er y5, ec y6, x1]
              exact ⟨x, h, rfl, x2.val, (gp_ext.refl h).le (by decide) (by decide)⟩
            · have := k_section (S := T) hc hv (r.toNat - 1) 0 1 V.2.2.1 (by omega) (by omega) (by omega) (by omega) false
              simp only [if_pos y5, if_neg y6, er y5, if_neg (show ¬ (0 < r ∧ 0 < c) from fun w => y6 w.2)]
              exact this
          · by_cases y6 : 0 < c
            · have := k_section (S := T) hc hv 0 (c.toNat - 1) V.2.1 1 (by omega) (by omega) (by omega) (by omega) false
              simp only [if_neg y5, if_pos y6, ec y6, if_neg (show ¬ (0 < r ∧ 0 < c) from fun w => y5 w.1)]
              exact this
            · have := k_section (S := T) hc hv 0 0 V.2.1 V.2.2.1 (by omega) (by omega) (by omega) (by omega) false
              simp only [if_neg y5, if_neg y6, if_neg (show ¬ (0 < r ∧ 0 < c) from fun w => y5 w.1)]
              exact this
theorem k_index (a : ga b h S vs n) (hc : gp_cs b h) (hn : 2 ≤ n) : cR b h S (f_Lo_index (some 20) (gv_ov h (gA S 0 row))) (sxV (bl (sW vs 1) (oW vs n 2)) (sp_ix vs n)) 2 23 := by
  have hn8 := a.1
  obtain ⟨i, i1, i2⟩ := a_raw (f := 0) (row := row) a 0 (by omega)
  obtain ⟨cs, fv⟩ := i2.fld
  obtain ⟨g1, g2⟩ := gp_ok16 i2.1
  obtain ⟨w1, w2, w3⟩ := a.sW (k := 1) (by omega)
  obtain ⟨-, -, o3⟩ := oX_b a 2
  have i1' : f_Ar_raw (some 20) (0 : Int32) (gv_ov h (gA S 0 row)) = _ := i1
  have e1 : f_Ar_whole (some 20) (1 : Int32) (gv_ov h (gA S 0 row)) = some (gJ (sw_x vs 1), gv_ov h (gA S (sW vs 1) row)) := a_wholeW a hc.1 1 (by omega) (by omega)
  have hx0 : -9007199254740992 < oX0 vs n 2 ∧ oX0 vs n 2 < 9007199254740992 := by
    unfold oX0
    split
    · rename_i z
      obtain ⟨-, x2, x3⟩ := a.sW z
      exact ⟨x2, x3⟩
    · omega
  have ho : f_Ar_wholeOr (some 20) (2 : Int32) (0 : Int64) (gv_ov h (gA S (sW vs 1) row)) = some (gJ (oX0 vs n 2), gv_ov h (gA S (bl (sW vs 1) (oW vs n 2)) row)) := by
    have := a_wholeOrW (row := row) a hc.1 2 (by omega) 0 w1
    rw [show gJ 0 = (0 : Int64) from gJl_0.symm] at this
    unfold oX0 oW
    by_cases z : 2 < n
    · rw [if_pos z, if_pos z] at this
      rw [if_pos z, if_pos z]
      exact this
    · rw [if_neg z, if_neg z] at this
      rw [if_neg z, if_neg z, bl_0]
      exact this
  have hE := bl_le w1 o3
  unfold f_Lo_index f_Lo_index_b44
  rw [gc_20, i1', gk_ca_some, gc_20, e1, gk_ca_some, gc_20, ho, gk_ca_some, gc_20, a_many a, gk_ca_some, gc_20, a_many a, gk_ca_some, fl_4 fv, fl_5 fv]
  generalize bl (sW vs 1) (oW vs n 2) = E at hE ⊢
  have go : ∀ (r c : Int), -9007199254740992 < r ∧ r < 9007199254740992 → -9007199254740992 < c ∧ c < 9007199254740992 → cR b h S (f_Lo_index_b63 (some i) (gJ r) (gJ c) (gv_ov h (gA S E row))) (sxV E (sp_ixV (vs 0) r c)) 2 23 := fun r c hr hcc => by
    have := cR.mX (gp_ext.refl h) (mX.refl mLk (gA S E row)) hE (k_index63 hc i2 r c hr hcc (gA S E row))
    rw [Nat.zero_add, Nat.zero_add] at this
    exact this
  unfold sp_ix
  rw [gI_lit 2, ite_eq _ _ _ _ (by omega) (by decide), show (1 : Int32) = gI 1 from rfl, ite_eq _ _ _ _ (by omega) (by decide), ite_eq _ _ _ _ (by omega) (by decide), ite_eq _ _ _ _ (by omega) (by decide), show (1 : Int64) = gJ 1 from gJl_1]
  by_cases z : n = 2
  · by_cases z1 : (vs 0).2.1 = 1
    · rw [if_pos z, if_pos z1, if_pos (show n = 2 ∧ (vs 0).2.1 = 1 from ⟨z, z1⟩)]
      exact go _ _ (by omega) ⟨w2, w3⟩
    · rw [if_pos z, if_neg z1, if_neg (show ¬ (n = 2 ∧ (vs 0).2.1 = 1) from fun w => z1 w.2), if_pos z]
      by_cases z2 : (vs 0).2.2.1 = 1
      · rw [if_pos z2, if_pos (show n = 2 ∧ (vs 0).2.2.1 = 1 from ⟨z, z2⟩)]
        exact go _ _ ⟨w2, w3⟩ (by omega)
      · rw [if_neg z2, if_neg (show ¬ (n = 2 ∧ (vs 0).2.2.1 = 1) from fun w => z2 w.2)]
        exact go _ _ ⟨w2, w3⟩ hx0
  · rw [if_neg z, if_neg z, if_neg (show ¬ (n = 2 ∧ (vs 0).2.1 = 1) from fun w => z w.1), if_neg (show ¬ (n = 2 ∧ (vs 0).2.2.1 = 1) from fun w => z w.1)]
    exact go _ _ ⟨w2, w3⟩ hx0
theorem k_answer (a : ga b h S vs n) (hc : gp_cs b h) (h1 : 74 ≤ f) (h2 : f ≤ 80) (hn1 : 1 ≤ n) (hn2 : f = 76 ∨ f = 77 ∨ f = 78 ∨ f = 79 → 2 ≤ n) (hn3 : f = 78 ∨ f = 79 → 3 ≤ n) : cR b h S (f_Lo_answer (gI f) (some 20) (gv_ov h (gA S 0 row))) (sp_lo f vs n) 6 60 := by
  have hn := a.1
  obtain ⟨i, i1, i2⟩ := a_raw (f := 0) (row := row) a 0 (by omega)
  obtain ⟨cs, fv⟩ := i2.fld
  have i1' : f_Ar_raw (some 20) (0 : Int32) (gv_ov h (gA S 0 row)) = _ := i1
  have hfs : f = 74 ∨ f = 75 ∨ f = 76 ∨ f = 77 ∨ f = 78 ∨ f = 79 ∨ f = 80 := by omega
  unfold f_Lo_answer
  simp only [ca_id]
  rcases hfs with rfl | rfl | rfl | rfl | rfl | rfl | rfl
  · rw [if_pos (by decide), gc_20, i1', gk_ca_some, fl_4 fv]
    exact (cR.of (vr_n hc (fd_i2df _)) (Nat.zero_le _) rfl).le (by decide) (by decide)
  · rw [if_neg (by decide), if_pos (by decide), gc_20, i1', gk_ca_some, fl_5 fv]
    exact (cR.of (vr_n hc (fd_i2df _)) (Nat.zero_le _) rfl).le (by decide) (by decide)
  · rw [if_neg (by decide), if_neg (by decide), if_pos (by decide)]
    exact (k_index a hc (hn2 (by decide))).le (by decide) (by decide)
  · rw [if_neg (by decide), if_neg (by decide), if_neg (by decide), if_pos (by decide)]
    exact (k_match a hc (hn2 (by decide))).le (by decide) (by decide)
  · have h3 := hn3 (by decide)
    obtain ⟨j, j1, j2⟩ := a_raw (f := 0) (row := row) a 1 (by omega)
    have j1' : f_Ar_raw (some 20) (1 : Int32) (gv_ov h (gA S 0 row)) = _ := j1
    rw [if_neg (by decide), if_neg (by decide), if_neg (by decide), if_neg (by decide), if_pos (by decide), gc_20, j1', gk_ca_some]
    exact (k_lookedUp a hc h3 j2).le (by decide) (by decide)
  · have h3 := hn3 (by decide)
    obtain ⟨j, j1, j2⟩ := a_raw (f := 0) (row := row) a 1 (by omega)
    have j1' : f_Ar_raw (some 20) (1 : Int32) (gv_ov h (gA S 0 row)) = _ := j1
    obtain ⟨t, g, t1, t2, t3⟩ := k_transposed (S := gA S 0 row) hc j2
    rw [if_neg (by decide), if_neg (by decide), if_neg (by decide), if_neg (by decide), if_neg (by decide), if_pos (by decide), gc_20, j1', gk_ca_some, t1, gk_ca_some]
    exact (cR.pre t3 (k_lookedUp (a.ext t3) (hc.ext t3) h3 t2)).le (by decide) (by decide)
  · obtain ⟨t, g, t1, t2, t3⟩ := k_transposed (S := gA S 0 row) hc i2
    rw [if_neg (by decide), if_neg (by decide), if_neg (by decide), if_neg (by decide), if_neg (by decide), if_neg (by decide), if_pos (by decide), gc_20, i1', gk_ca_some, t1]
    exact (cR.pre t3 (cR.ofV t2 (Nat.zero_le _) rfl)).le (by decide) (by decide)
end LO3
