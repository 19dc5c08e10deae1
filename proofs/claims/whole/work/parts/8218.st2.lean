/-! THE PURE PART: the class's stack, cells, operators, functions -/
section ST2
variable {b cap n : Nat} {h : gk_H} {S : gv_S} {L : List gp_V} {u : List Nat} {i j : Nat} {V : gp_V}
def sp_cat (L : List gp_V) (d r c : Int32) : Option gp_C := if d < 0 ∨ gI L.length ≤ d then none else if r < 0 ∨ gI (L.getD (L.length - 1 - d.toNatClampNeg) gV_d).2.1 ≤ r ∨ c < 0 ∨ gI (L.getD (L.length - 1 - d.toNatClampNeg) gV_d).2.2.1 ≤ c then none else some ((L.getD (L.length - 1 - d.toNatClampNeg) gV_d).2.2.2 (r.toNatClampNeg * (L.getD (L.length - 1 - d.toNatClampNeg) gV_d).2.2.1 + c.toNatClampNeg))
theorem in_lt {d : Int32} {n : Nat} (h0 : ¬ d < 0) (hn : n < 2147483648) (h : ¬ gI n ≤ d) : d.toNatClampNeg < n := by
  obtain ⟨e1, e2⟩ := gI_in h0
  rw [e1, gI_le _ _ hn e2] at h
  omega
theorem lt_in {d : Int32} {n : Nat} (h0 : ¬ d < 0) (hn : n < 2147483648) : (d < gI n) ↔ ¬ gI n ≤ d := by
  obtain ⟨e1, e2⟩ := gI_in h0
  rw [e1, gI_le _ _ hn e2, gI_lt _ _ e2 hn]
  omega
theorem t_cat (q : cs_st b cap h S L u) (d r c : Int32) : sp_cat L d r c = none ∧ f_A_cellAtDepth (some 16) d r c (gv_ov h S) = some (.inr eIX, gk_thrown (gv_ov h S)) ∨ ∃ (C : gp_C) (i : Nat), sp_cat L d r c = some C ∧ f_A_cellAtDepth (some 16) d r c (gv_ov h S) = some (.inl (some i), gv_ov h S) ∧ gp_cell b h i C := by
  unfold f_A_cellAtDepth f_A_cellAtDepth_b33 sp_cat
  rcases t_at q d with ⟨z, e⟩ | ⟨z1, z2, z3, i, e, hv⟩
  · rw [e, gx_r, if_pos z]
    exact Or.inl ⟨rfl, rfl⟩
  · obtain ⟨cs, fv⟩ := hv.fld
    obtain ⟨g1, g2⟩ := gp_ok16 hv.1
    rw [e, gx_l, if_neg (show ¬ (d < 0 ∨ gI L.length ≤ d) from fun w => w.elim z1 z2), fl_4 fv, fl_5 fv, fl_5 fv]
    generalize L.getD (L.length - 1 - d.toNatClampNeg) gV_d = V at hv fv g1 g2 ⊢
    by_cases y1 : r < 0
    · rw [if_pos y1, if_pos (Or.inl y1)]
      exact Or.inl ⟨rfl, rfl⟩
    · rw [if_neg y1]
      by_cases y2 : gI V.2.1 ≤ r
      · rw [if_pos y2, if_pos (Or.inr (Or.inl y2))]
        exact Or.inl ⟨rfl, rfl⟩
      · rw [if_neg y2]
        by_cases y3 : c < 0
        · rw [if_pos y3, if_pos (Or.inr (Or.inr (Or.inl y3)))]
          exact Or.inl ⟨rfl, rfl⟩
        · rw [if_neg y3]
          by_cases y4 : gI V.2.2.1 ≤ c
          · rw [if_neg (fun w => ((lt_in y3 (by omega)).mp w) y4), if_pos (Or.inr (Or.inr (Or.inr y4)))]
            exact Or.inl ⟨rfl, rfl⟩
          · have hr := in_lt y1 (by omega) y2
            have hcc := in_lt y3 (by omega) y4
            obtain ⟨j, j1, j2⟩ := v_at (S := S) hv _ (ix_lt hr hcc)
            have ea : r * gI V.2.2.1 + c = gI (r.toNatClampNeg * V.2.2.1 + c.toNatClampNeg) := by
              conv => lhs; rw [(gI_in y1).1, (gI_in y3).1]
              rw [gI_mul, gI_add]
            rw [if_pos ((lt_in y3 (by omega)).mpr y4), if_neg (show ¬ (r < 0 ∨ gI V.2.1 ≤ r ∨ c < 0 ∨ gI V.2.2.1 ≤ c) from fun w => w.elim y1 (fun w => w.elim y2 (fun w => w.elim y3 y4))), fl_cv fv, ea, j1, gk_ca_some]
            exact Or.inr ⟨_, j, rfl, rfl, j2⟩
def sp_cell (L : List gp_V) (d r c w : Int32) : Sum Int32 String := match sp_cat L d r c with
  | none => .inr eIX
  | some C => if w = 0 then .inl (gI C.1) else if w = 1 then .inl (gI (if C.1 = 2 then C.2.2.2.length else C.2.1)) else .inr eAR
theorem t_cell (q : cs_st b cap h S L u) (d r c w : Int32) : cM cap h S (f_A_cell (some 16) d r c w (gv_ov h S)) (sp_cell L d r c w) L u 1 6 := by
  unfold f_A_cell f_A_cell_b67 sp_cell
  rcases t_cat q d r c with ⟨z, e⟩ | ⟨C, i, z, e, hv⟩
  · rw [e, gx_r, z]
    exact cM.thr q eIX
  · obtain ⟨s, s1, s2⟩ := fl_3 hv.2
    have h4 := hv.1.1
    rw [e, gx_l, z, fl_0 hv.2, fl_0 hv.2, fl_1 hv.2, s2, gI_lit 2, ite_eq _ _ _ _ (by omega) (by decide), st_cv s1, s_len q.2.2.1.1 s1, gk_ca_some]
    dsimp only
    by_cases y0 : w = 0
    · rw [if_pos y0, if_pos y0]
      exact cM.ret q _
    · rw [if_neg y0, if_neg y0]
      by_cases y1 : w = 1
      · rw [if_pos y1, if_pos y1]
        by_cases y2 : C.1 = 2
        · rw [if_pos y2, if_pos y2]
          exact cM.ret q _
        · rw [if_neg y2, if_neg y2]
          exact cM.ret q _
      · rw [if_neg y1, if_neg y1]
        exact cM.thr q eAR
def sp_value (L : List gp_V) (d r c : Int32) : Sum UInt64 String := match sp_cat L d r c with
  | none => .inr eIX
  | some C => .inl C.2.2.1
theorem t_value (q : cs_st b cap h S L u) (d r c : Int32) : cM cap h S (f_A_value (some 16) d r c (gv_ov h S)) (sp_value L d r c) L u 1 6 := by
  unfold f_A_value sp_value
  rcases t_cat q d r c with ⟨z, e⟩ | ⟨C, i, z, e, hv⟩
  · rw [e, gx_r, z]
    exact cM.thr q eIX
  · rw [e, gx_l, z, fl_2 hv.2]
    exact cM.ret q _
def sp_letter (L : List gp_V) (d r c k : Int32) : Sum Int32 String := match sp_cat L d r c with
  | none => .inr eIX
  | some C => if k < 0 ∨ gI C.2.2.2.length ≤ k then .inl (-1 : Int32) else .inl (gI (C.2.2.2.getD k.toNatClampNeg 0))
theorem t_letter (q : cs_st b cap h S L u) (d r c k : Int32) : cM cap h S (f_A_letter (some 16) d r c k (gv_ov h S)) (sp_letter L d r c k) L u 1 6 := by
  unfold f_A_letter f_A_letter_b37 f_A_letter_b38 sp_letter
  rcases t_cat q d r c with ⟨z, e⟩ | ⟨C, i, z, e, hv⟩
  · rw [e, gx_r, z]
    exact cM.thr q eIX
  · obtain ⟨s, s1, s2⟩ := fl_3 hv.2
    have hl := hv.1.2.2.2.2.2.2.2.2.1
    rw [e, gx_l, z, s2, st_cv s1, s_len q.2.2.1.1 s1, gk_ca_some]
    dsimp only
    by_cases y0 : k < 0
    · rw [if_pos y0, if_pos (Or.inl y0)]
      exact cM.ret q _
    · rw [if_neg y0]
      by_cases y1 : gI C.2.2.2.length ≤ k
      · rw [if_pos y1, if_pos (Or.inr y1)]
        exact cM.ret q _
      · have hk := in_lt y0 (by omega) y1
        have ek := (gI_in y0).1
        rw [if_neg y1, if_neg (show ¬ (k < 0 ∨ gI C.2.2.2.length ≤ k) from fun w => w.elim y0 y1), st_cv s1]
        conv in f_St_charAt (some s) k => rw [ek]
        rw [s_charAt q.2.2.1.1 s1 hk, gk_ca_some]
        exact cM.ret q _
theorem t_replace (q : cs_st b cap h S L u) (k : Nat) (hk : k ≤ L.length) (hr : L.length - k < 16) (hv : gp_val b h i V) : cM cap h S (f_A_replaceUpper (some 16) (gI k) (some i) (gv_ov h S)) (.inl ()) (L.take (L.length - k) ++ [V]) u 1 6 := by
  have hL := q.1.1
  have loop : ∀ (r m fu : Nat) (S : gv_S), m + r = k → r < fu → cs_st b cap h S (L.take (L.length - m)) u → cM cap h S (f_A_replaceUpper_b2 fu (some 16) (gI k) (some i) (gI m) (gv_ov h S)) (.inl ()) (L.take (L.length - k) ++ [V]) u 1 6 := by
    intro r
    induction r with
    | zero =>
      intro m fu S hm hf q
      obtain ⟨fu, rfl⟩ : ∃ f, fu = f + 1 := ⟨fu - 1, by omega⟩
      have e : m = k := by omega
      subst e
      rw [f_A_replaceUpper_b2]
      unfold f_A_replaceUpper_b40
      dsimp only
      rw [if_pos (by rw [gI_le _ _ (by omega) (by omega)]; omega), gx_id]
      have := t_push q hv
      have el : (L.take (L.length - m)).length = L.length - m := by
        rw [List.length_take]
        omega
      unfold sp_push at this
      rw [el, if_pos hr] at this
      exact this
    | succ r ih =>
      intro m fu S hm hf q
      obtain ⟨fu, rfl⟩ : ∃ f, fu = f + 1 := ⟨fu - 1, by omega⟩
      have el : (L.take (L.length - m)).length = L.length - m := by
        rw [List.length_take]
        omega
      have a2 := q.1.2.1
      rw [el] at a2
      have z0 : ∀ {β : Type} (x y : β), (if gI (L.length - m) ≤ (0 : Int32) then x else y) = if L.length - m ≤ 0 then x else y := fun x y => ite_le x y _ 0 (by omega) (by decide)
      obtain ⟨p1, p2⟩ := cs_pop q (by omega) (v := none)
      rw [el] at p1 p2
      rw [f_A_replaceUpper_b2]
      dsimp only
      rw [ite_le _ _ _ _ (by omega) (by omega), if_neg (by omega), gg_16_1, a2, z0, if_neg (by omega), gg_16_1, a2, show gI (L.length - m) - (1 : Int32) = gI (L.length - m - 1) from gI_sub _ 1 (by omega), gs_16_1, gr_16_0, gg_16_1, show (gv_uI S 16 1 (gI (L.length - m - 1))).1 16 1 = gI (L.length - m - 1) from rfl, gt_17 (by omega) none rfl, gk_let_eq, show gI m + (1 : Int32) = gI (m + 1) from gI_add _ 1]
      have et : (L.take (L.length - m)).take (L.length - m - 1) = L.take (L.length - (m + 1)) := by
        rw [List.take_take, show min (L.length - m - 1) (L.length - m) = L.length - (m + 1) by omega]
      rw [et] at p1
      obtain ⟨h', S', b', cap', q1, q2, q3, q4⟩ := ih (m + 1) fu _ (by omega) (by omega) p1
      exact ⟨h', S', b', cap', q1, q2, p2.trans q3, q4⟩
  unfold f_A_replaceUpper
  exact loop k 0 gk_F S (by omega) (by unfold gk_F; omega) (by rw [Nat.sub_zero, List.take_length]; exact q)
/-- an answer, put in the place of the arguments -/
theorem t_ans (q : cs_st b cap h S L u) (k : Nat) (hk : k ≤ L.length) (hr : L.length - k < 16) {x : Option (Option Nat × gk_H)} {S1 : gv_S} {c s : Nat} (hf : gc_fr S S1) (hx : cR b h S1 x V c s) : cM cap h S (gk_ca x fun x6 h2 => ((gk_get h2 (some 16) 5 3).bind gk_asR).bind fun x7 => gk_cv h2 x7 4 (f_Ar_faultOr x7 x6 h2) fun x8 h3 => gk_cx h3 (some 16) 5 (f_A_replaceUpper (some 16) (gI k) x8 h3) (fun _ h4 => some (.inl (), h4)) Sum.inr) (.inl ()) (L.take (L.length - k) ++ [V]) u (c + 2) (s + 13) := by
  obtain ⟨r, h', S', e, row, V', q1, q2, q3, q4, q5, q6⟩ := hx
  have qc := q.ext q3
  have fr := (hf.trans q4).trans (gA_fr S' e row)
  obtain ⟨r2, h2, w1, w2, w3⟩ := a_faultOr (S := S') (row := row) qc.2.2.1 q2 q5
  rw [q6] at w2
  have q' := (qc.ext w3).fr fr
  obtain ⟨h3, S3, b3, cap3, p1, p2, p3, p4⟩ := t_replace q' k hk hr w2
  rw [q1, gk_ca_some, gr_16_3, gc_20, w1, gk_ca_some, gx_id, p1]
  exact ⟨h3, S3, b3, cap3, rfl, p2, fr.cs.trans p3, (((gp_gw.of q3).trans (gp_gw.of w3)).trans p4).le (by omega) (by omega)⟩
/-- the arguments taken -/
def upL (L : List gp_V) (k : Nat) : Nat → gp_V := fun m => L.getD (L.length - k + m) gV_d
theorem t_take (q : cs_st b cap h S L u) (k : Nat) (hk : k ≤ L.length) (h8 : k ≤ 8) : ∃ S', f_Ar_take (some 20) (some 17) (gI (L.length - k)) (gI k) (gv_ov h S) = some ((), gv_ov h (gA S' 0 [])) ∧ ga b h S' (upL L k) k ∧ gc_fr S S' :=
  a_take S (L.length - k) q.2.2.2.2.2 h8 (by have := q.1.1; omega) (fun m hm => q.1.2.2 (L.length - k + m) (by omega))
def sp_operate (L : List gp_V) (o : Int32) : Sum Unit String × List gp_V := if o < 0 ∨ gI 14 ≤ o then (.inr eAR, L) else if L.length < (if o.toNatClampNeg < 2 then 1 else 2) then (.inr eAR, L) else (.inl (), L.take (L.length - (if o.toNatClampNeg < 2 then 1 else 2)) ++ [gV_1 (sp_op o.toNatClampNeg (upL L (if o.toNatClampNeg < 2 then 1 else 2)))])
theorem t_operate (q : cs_st b cap h S L u) (o : Int32) : cM cap h S (f_A_operate (some 16) o (gv_ov h S)) (sp_operate L o).1 (sp_operate L o).2 u 302 8013 := by
  have hL := q.1.1
  have a2 := q.1.2.1
  have err := (cM.thr (α := Unit) q eAR).le (c' := 302) (s' := 8013) (by decide) (by decide)
  unfold f_A_operate f_A_operate_b10 sp_operate
  by_cases z1 : o < 0
  · rw [if_pos z1, if_pos (Or.inl z1)]
    exact err
  · obtain ⟨e1, e2⟩ := gI_in z1
    rw [if_neg z1]
    by_cases z2 : gI 14 ≤ o
    · have : ¬ o ≤ (13 : Int32) := by
        rw [e1, gI_lit 13, gI_le _ _ e2 (by decide)]
        rw [e1, gI_le _ _ (by decide) e2] at z2
        omega
      rw [if_neg this, if_pos (Or.inr z2)]
      exact err
    · have ho := in_lt z1 (by decide) z2
      have : o ≤ (13 : Int32) := by
        rw [e1, gI_lit 13, gI_le _ _ e2 (by decide)]
        omega
      rw [if_pos this, if_neg (show ¬ (o < 0 ∨ gI 14 ≤ o) from fun w => w.elim z1 z2)]
      have core : ∀ k : Nat, k = (if o.toNatClampNeg < 2 then 1 else 2) → cM cap h S (f_A_operate_b32 (some 16) (gI o.toNatClampNeg) (gI k) (gv_ov h S)) (if L.length < k then (Sum.inr eAR, L) else (Sum.inl (), L.take (L.length - k) ++ [gV_1 (sp_op o.toNatClampNeg (upL L k))])).1 (if L.length < k then ((Sum.inr eAR : Sum Unit String), L) else (Sum.inl (), L.take (L.length - k) ++ [gV_1 (sp_op o.toNatClampNeg (upL L k))])).2 u 302 8013 := by
        intro k hk
        have hk2 : 1 ≤ k ∧ k ≤ 2 := by rw [hk]; split <;> omega
        unfold f_A_operate_b32
        rw [gg_16_1, a2, ite_le _ _ _ _ (by omega) (by omega)]
        by_cases y : L.length < k
        · rw [if_neg (show ¬ k ≤ L.length by omega), if_pos y]
          exact err
        · obtain ⟨S1, s1, s2, s3⟩ := t_take q k (by omega) (by omega)
          rw [if_pos (show k ≤ L.length by omega), if_neg y, gr_16_3, gr_16_0, gg_16_1, a2, gI_sub _ _ (by omega), gc_20, s1, gk_ca_some, gr_16_3]
          exact t_ans q k (by omega) (by omega) s3 (o_answer s2 q.2.2.1 o.toNatClampNeg (by omega) hk2.1 (fun w => by rw [hk, if_neg (by omega)]; omega))
      have ot : f_Op_takesOne o (gv_ov h S) = some (gB (decide (o.toNatClampNeg < 2)), gv_ov h S) := by
        conv => lhs; rw [e1]
        exact o_takes _ (by omega) _
      rw [ot, gk_ca_some, ite_B]
      by_cases y : o.toNatClampNeg < 2
      · have := core 1 (by rw [if_pos y])
        rw [← e1] at this
        rw [if_pos (decide_eq_true y), if_pos y]
        exact this
      · have := core 2 (by rw [if_neg y])
        rw [← e1] at this
        rw [if_neg (by rw [decide_eq_false y]; decide), if_neg y]
        exact this
end ST2
