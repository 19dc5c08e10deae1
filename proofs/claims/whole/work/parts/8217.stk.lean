/-! THE PURE PART: the class's stack -/
def gV_d : gp_V := gV_1 gc_0
def fwL : List Nat := [1, 1, 1, 1, 1, 1, 1, 1, 1, 1, 2, 2, 2, 1, 1, 1, 2, 2, 2, 1, 1, 1, 2, 2, 2, 1, 1, 1, 2, 1, 1, 2, 2, 1, 1, 2, 2, 2, 2, 1, 1, 1, 1, 0, 0, 0, 1, 1, 1, 1, 1, 1, 1, 1, 1, 1, 1, 1, 1, 3, 1, 1, 1, 1, 1, 2, 3, 4, 2, 2, 2, 1, 1, 1, 1, 1, 2, 2, 3, 3, 1, 3, 1, 1, 1, 1, 2, 2, 3, 1, 1, 1]
def moL : List Nat := [8, 8, 8, 8, 8, 8, 8, 8, 1, 8, 2, 2, 2, 8, 8, 4, 2, 3, 3, 1, 1, 1, 2, 2, 2, 8, 8, 1, 2, 1, 1, 2, 2, 2, 2, 3, 2, 2, 8, 8, 8, 8, 1, 0, 0, 0, 1, 1, 1, 1, 1, 1, 1, 1, 1, 1, 1, 2, 2, 3, 1, 1, 1, 1, 8, 2, 4, 4, 3, 3, 2, 1, 1, 1, 1, 1, 3, 3, 4, 4, 1, 3, 1, 1, 1, 2, 2, 2, 3, 1, 1, 1]
/-- FEWEST and MOST -/
def gp_ay (h : gk_H) : Prop := (h.2.2 1).1 = 1 ∧ (h.2.2 1).2.1 = 92 ∧ (∀ k, k < 92 → (h.2.2 1).2.2 k = .int (gI (fwL.getD k 0))) ∧ (h.2.2 2).1 = 1 ∧ (h.2.2 2).2.1 = 92 ∧ ∀ k, k < 92 → (h.2.2 2).2.2 k = .int (gI (moL.getD k 0))
def cs_st (b cap : Nat) (h : gk_H) (S : gv_S) (L : List gp_V) (u : List Nat) : Prop :=
  (L.length ≤ 16 ∧ S.1 16 1 = gI L.length ∧ ∀ m, m < L.length → ∃ i : Nat, S.2.2.1 17 m = some i ∧ gp_val b h i (L.getD m gV_d)) ∧ (gp_sb h 18 b cap u ∧ u.length ≤ 255 ∧ okT u ∧ cap ≤ 600) ∧ gp_cs b h ∧ gp_dy h ∧ gp_ay h ∧ gp_cell b h 25 (gc_e 3)
def cs_fr (S S' : gv_S) : Prop := (∀ a c, (a < 16 ∨ 29 < a) → S'.1 a c = S.1 a c ∧ S'.2.1 a c = S.2.1 a c ∧ S'.2.2.1 a c = S.2.2.1 a c) ∧ S'.2.2.2 = S.2.2.2
/-- what was there before the law is as it was -/
def gp_sm (h h' : gk_H) : Prop := ∀ i, i < 16 → i < h.1 → i < h'.1 ∧ h'.2.2 i = h.2.2 i
def gp_gw (ck sk cap cap' : Nat) (h h' : gk_H) : Prop := 18 * h'.1 + cap ≤ 18 * (h.1 + ck) + cap' ∧ h'.2.1 + 2 * cap ≤ h.2.1 + sk + 2 * cap' ∧ cap ≤ cap' ∧ gp_sm h h'
/-- a method of the class ends with out, the stack being L', the text under way u' -/
def cM {α : Type} (cap : Nat) (h : gk_H) (S : gv_S) (x : Option (Sum α String × gk_H)) (out : Sum α String) (L' : List gp_V) (u' : List Nat) (ck sk : Nat) : Prop := ∃ h' S' b' cap', x = some (out, gv_ov h' S') ∧ cs_st b' cap' h' S' L' u' ∧ cs_fr S S' ∧ gp_gw ck sk cap cap' h h'
def eST : String := "java/lang/IllegalStateException"
def eAR : String := "java/lang/IllegalArgumentException"
def eIX : String := "java/lang/IndexOutOfBoundsException"
section STK
variable {b cap n : Nat} {h : gk_H} {S : gv_S} {L : List gp_V} {u : List Nat} {i j : Nat} {V : gp_V}
theorem cs_fr.refl (S : gv_S) : cs_fr S S := ⟨fun _ _ _ => ⟨rfl, rfl, rfl⟩, rfl⟩
theorem cs_fr.trans {S S' S'' : gv_S} (a : cs_fr S S') (c : cs_fr S' S'') : cs_fr S S'' := by
  refine ⟨fun x y hx => ?_, by rw [c.2, a.2]⟩
  obtain ⟨a1, a2, a3⟩ := a.1 x y hx
  obtain ⟨c1, c2, c3⟩ := c.1 x y hx
  exact ⟨by rw [c1, a1], by rw [c2, a2], by rw [c3, a3]⟩
theorem gc_fr.cs {S S' : gv_S} (a : gc_fr S S') : cs_fr S S' := ⟨fun x y hx => a.1 x y (by omega), a.2⟩
theorem gp_gw.of {c s : Nat} {h' : gk_H} (e : gp_ext c s h h') : gp_gw c s cap cap h h' := by
  obtain ⟨e1, e2, e3, e4⟩ := e
  exact ⟨by omega, by omega, Nat.le_refl _, fun i hi hl => ⟨by omega, e4 i hl⟩⟩
theorem gp_gw.trans {c s c' s' cap' cap'' : Nat} {h' h'' : gk_H} (a : gp_gw c s cap cap' h h') (e : gp_gw c' s' cap' cap'' h' h'') : gp_gw (c + c') (s + s') cap cap'' h h'' := by
  obtain ⟨a1, a2, a3, a4⟩ := a
  obtain ⟨e1, e2, e3, e4⟩ := e
  exact ⟨by omega, by omega, by omega, fun i hi hl => ⟨(e4 i hi (a4 i hi hl).1).1, (e4 i hi (a4 i hi hl).1).2.trans (a4 i hi hl).2⟩⟩
theorem gp_gw.le {c s c' s' cap' : Nat} {h' : gk_H} (a : gp_gw c s cap cap' h h') (h1 : c ≤ c') (h2 : s ≤ s') : gp_gw c' s' cap cap' h h' := by
  obtain ⟨a1, a2, a3, a4⟩ := a
  exact ⟨by omega, by omega, a3, a4⟩
theorem cM.le {α : Type} {x : Option (Sum α String × gk_H)} {out : Sum α String} {L' : List gp_V} {u' : List Nat} {c s c' s' : Nat} (a : cM cap h S x out L' u' c s) (h1 : c ≤ c') (h2 : s ≤ s') : cM cap h S x out L' u' c' s' := by
  obtain ⟨h', S', b', cap', q1, q2, q3, q4⟩ := a
  exact ⟨h', S', b', cap', q1, q2, q3, q4.le h1 h2⟩
theorem cs_st.ext {c s : Nat} {h' : gk_H} (a : cs_st b cap h S L u) (e : gp_ext c s h h') : cs_st b cap h' S L u := by
  obtain ⟨⟨a1, a2, a3⟩, ⟨b1, b2⟩, c1, d1, ⟨f1, f2, f3, f4, f5, f6⟩, g1⟩ := a
  have h44 := c1.1.1
  refine ⟨⟨a1, a2, fun m hm => ?_⟩, ⟨b1.ext e, b2⟩, c1.ext e, d1.ext e, ?_, g1.ext e⟩
  · obtain ⟨i, i1, i2⟩ := a3 m hm
    exact ⟨i, i1, i2.ext e⟩
  · unfold gp_ay
    rw [e.2.2.2 1 (by omega), e.2.2.2 2 (by omega)]
    exact ⟨f1, f2, f3, f4, f5, f6⟩
theorem cs_st.fr {S' : gv_S} (a : cs_st b cap h S L u) (e : gc_fr S S') : cs_st b cap h S' L u := by
  obtain ⟨⟨a1, a2, a3⟩, a4⟩ := a
  refine ⟨⟨a1, by rw [(e.1 16 1 (by omega)).1]; exact a2, fun m hm => ?_⟩, a4⟩
  rw [(e.1 17 m (by omega)).2.2]
  exact a3 m hm
theorem cM.thr {α : Type} (q : cs_st b cap h S L u) (E : String) : cM (α := α) cap h S (some (.inr E, gk_thrown (gv_ov h S))) (.inr E) L u 1 6 := by
  have e : gp_ext 1 6 h (gk_thrown h) := ⟨Nat.le_succ _, Nat.le_refl _, Nat.le_refl _, fun _ _ => rfl⟩
  exact ⟨gk_thrown h, S, b, cap, rfl, q.ext e, cs_fr.refl S, gp_gw.of e⟩
theorem gx_l {α β : Type} {r : α} {h' : gk_H} (f : α → gk_H → Option (β × gk_H)) (inj : String → β) : gk_cx (gv_ov h S) (some 16) 5 (some (.inl r, h')) f inj = f r h' := rfl
theorem gx_r {α β : Type} {E : String} {h' : gk_H} (f : α → gk_H → Option (β × gk_H)) (inj : String → β) : gk_cx (gv_ov h S) (some 16) 5 (some (.inr E, h')) f inj = some (inj E, h') := rfl
theorem gx_id (x : Option (Sum Unit String × gk_H)) : gk_cx (gv_ov h S) (some 16) 5 x (fun _ h2 => some (.inl (), h2)) Sum.inr = x := by
  cases x with
  | none => rfl
  | some q =>
    obtain ⟨q, g⟩ := q
    cases q <;> rfl
theorem gp_val.may (hv : gp_val b h i V) : gk_may (gv_ov h S) 7 (va_rf (some i)) = true := by
  obtain ⟨cs, fv⟩ := hv.fld
  unfold gk_may va_rf
  show decide (((gv_ov h S).2.2 i).1 = 12) = true
  rw [gv_no fv.2.1.1, decide_eq_true_iff]
  exact fv.2.2.1
def sp_push (L : List gp_V) (V : gp_V) : Sum Unit String × List gp_V := if L.length < 16 then (.inl (), L ++ [V]) else (.inr eST, L)
theorem t_push (q : cs_st b cap h S L u) (hv : gp_val b h i V) : cM cap h S (f_A_push (some 16) (some i) (gv_ov h S)) (sp_push L V).1 (sp_push L V).2 u 1 6 := by
  have q0 := q
  obtain ⟨⟨a1, a2, a3⟩, a4⟩ := q
  unfold f_A_push sp_push
  rw [gg_16_1, a2, gI_lit 16, ite_lt _ _ _ _ (by omega) (by decide)]
  by_cases z : L.length < 16
  · rw [if_pos z, if_pos z, gr_16_0, gg_16_1, a2, gt_17 z _ hv.may, gg_16_1, show (gv_uR S 17 L.length (some i)).1 16 1 = gI L.length from a2, show gI L.length + (1 : Int32) = gI (L.length + 1) from gI_add _ 1, gs_16_1]
    refine ⟨h, gv_uI (gv_uR S 17 L.length (some i)) 16 1 (gI (L.length + 1)), b, cap, rfl, ⟨⟨?_, ?_, fun m hm => ?_⟩, a4⟩, ⟨fun x y hx => ⟨?_, rfl, ?_⟩, rfl⟩, gp_gw.of ((gp_ext.refl h).le (by decide) (by decide))⟩
    · rw [List.length_append, List.length_singleton]
      omega
    · rw [List.length_append, List.length_singleton]
      rfl
    · rw [List.length_append, List.length_singleton] at hm
      show ∃ j : Nat, (if 17 = 17 ∧ m = L.length then some i else S.2.2.1 17 m) = some j ∧ _
      by_cases w : m = L.length
      · rw [if_pos ⟨rfl, w⟩]
        refine ⟨i, rfl, ?_⟩
        rw [w, List.getD_eq_getElem?_getD, List.getElem?_append_right (Nat.le_refl _), Nat.sub_self]
        exact hv
      · rw [if_neg (fun k => w k.2)]
        obtain ⟨j, j1, j2⟩ := a3 m (by omega)
        refine ⟨j, j1, ?_⟩
        rw [List.getD_eq_getElem?_getD, List.getElem?_append_left (by omega), ← List.getD_eq_getElem?_getD]
        exact j2
    · show (if x = 16 ∧ y = 1 then _ else S.1 x y) = S.1 x y
      rw [if_neg (by omega)]
    · show (if x = 17 ∧ y = L.length then _ else S.2.2.1 x y) = S.2.2.1 x y
      rw [if_neg (by omega)]
  · rw [if_neg z, if_neg z]
    exact cM.thr q0 eST
/-- what is made first costs first -/
theorem cM.pre {α : Type} {c s c' s' : Nat} {h' : gk_H} {x : Option (Sum α String × gk_H)} {out : Sum α String} {L' : List gp_V} {u' : List Nat} (e : gp_ext c s h h') (q : cM cap h' S x out L' u' c' s') : cM cap h S x out L' u' (c + c') (s + s') := by
  obtain ⟨h2, S', b', cap', q1, q2, q3, q4⟩ := q
  exact ⟨h2, S', b', cap', q1, q2, q3, (gp_gw.of e).trans q4⟩
theorem t_pushc (q : cs_st b cap h S L u) {x : Option (Option Nat × gk_H)} {c : gp_C} (hv : vR b h S x c) : cM cap h S (gk_ca x fun x1 h1 => f_A_push (some 16) x1 h1) (sp_push L (gV_1 c)).1 (sp_push L (gV_1 c)).2 u 2 13 := by
  obtain ⟨r, h', r1, r2, r3⟩ := hv
  rw [r1, gk_ca_some]
  exact cM.pre r3 (t_push (q.ext r3) r2.val)
theorem t_number (q : cs_st b cap h S L u) {x : UInt64} (hx : fd_n x) : cM cap h S (f_A_number (some 16) x (gv_ov h S)) (sp_push L (gV_1 (gc_num x))).1 (sp_push L (gV_1 (gc_num x))).2 u 2 13 := by
  have := t_pushc q (vr_num (S := S) q.2.2.1 hx)
  obtain ⟨r, h', r1, r2, r3⟩ := vr_num (S := S) q.2.2.1 hx
  unfold f_A_number
  rw [r1, gk_ca_some] at this ⊢
  rw [gx_id]
  exact this
def sp_plain (L : List gp_V) (k v : Int32) : Sum Unit String × List gp_V :=
  if k = 0 then sp_push L (gV_1 gc_0)
  else if k = 3 ∧ (v = 0 ∨ v = 1) then sp_push L (gV_1 (gc_b (decide (v = 1))))
  else if k = 4 ∧ ¬ v < 1 ∧ ¬ 8 < v then sp_push L (gV_1 (gc_e v.toNatClampNeg))
  else (.inr eAR, L)
theorem gI_in {d : Int32} (h0 : ¬ d < 0) : d = gI d.toNatClampNeg ∧ d.toNatClampNeg < 2147483648 := by
  have h1 : ¬ d.toInt < 0 := fun w => h0 (Int32.lt_iff_toInt_lt.mpr w)
  have h2 := d.toInt_lt
  have e : d.toNatClampNeg = d.toInt.toNat := rfl
  refine ⟨?_, by omega⟩
  apply Int32.toInt.inj
  rw [gI_toInt _ (by omega), e]
  omega
theorem t_plain (q : cs_st b cap h S L u) (k v : Int32) : cM cap h S (f_A_plain (some 16) k v (gv_ov h S)) (sp_plain L k v).1 (sp_plain L k v).2 u 2 13 := by
  have hc := q.2.2.1
  have go : ∀ {x : Option (Option Nat × gk_H)} {c : gp_C}, vR b h S x c → cM cap h S (gk_ca x fun x1 h1 => gk_cx h1 (some 16) 5 (f_A_push (some 16) x1 h1) (fun _ h2 => some (.inl (), h2)) Sum.inr) (sp_push L (gV_1 c)).1 (sp_push L (gV_1 c)).2 u 2 13 := fun hv => by
    have := t_pushc q hv
    obtain ⟨r, h', r1, r2, r3⟩ := hv
    rw [r1, gk_ca_some] at this ⊢
    rw [gx_id]
    exact this
  have err := (cM.thr (α := Unit) q eAR).le (c' := 2) (s' := 13) (by decide) (by decide)
  unfold f_A_plain f_A_plain_b28 f_A_plain_b39 f_A_plain_b48 f_A_plain_b75 f_A_plain_b85 sp_plain
  by_cases z0 : k = 0
  · rw [if_pos z0, if_pos z0]
    exact go (v_none hc)
  · rw [if_neg z0, if_neg z0]
    by_cases z3 : k = 3
    · have n4 : ¬ k = 4 := by rw [z3]; decide
      rw [if_pos z3]
      by_cases y0 : v = 0
      · have n1 : ¬ v = 1 := by rw [y0]; decide
        rw [if_pos y0, if_neg n1, if_pos (show k = 3 ∧ (v = 0 ∨ v = 1) from ⟨z3, Or.inl y0⟩), decide_eq_false n1]
        exact go (vr_tru hc false)
      · rw [if_neg y0]
        by_cases y1 : v = 1
        · rw [if_pos y1, if_pos y1, if_pos (show k = 3 ∧ (v = 0 ∨ v = 1) from ⟨z3, Or.inr y1⟩), decide_eq_true y1]
          exact go (vr_tru hc true)
        · rw [if_neg y1, if_neg n4, if_neg (fun w => w.2.elim y0 y1), if_neg (fun w => n4 w.1)]
          exact err
    · rw [if_neg z3, if_neg (show ¬ (k = 3 ∧ (v = 0 ∨ v = 1)) from fun w => z3 w.1)]
      by_cases z4 : k = 4
      · rw [if_pos z4]
        by_cases y1 : v < 1
        · rw [if_pos y1, if_neg (fun w => w.2.1 y1)]
          exact err
        · rw [if_neg y1]
          by_cases y8 : 8 < v
          · rw [if_pos y8, if_neg (fun w => w.2.2 y8)]
            exact err
          · rw [if_neg y8, if_pos (show k = 4 ∧ ¬ v < 1 ∧ ¬ 8 < v from ⟨z4, y1, y8⟩)]
            have h0 : ¬ v < 0 := fun w => y1 (Int32.lt_trans w (by decide))
            obtain ⟨e1, e2⟩ := gI_in h0
            have hv : v = gI v.toNatClampNeg := e1
            revert y1 y8
            rw [hv]
            intro y1 y8
            rw [gI_nat _ e2]
            rw [show (1 : Int32) = gI 1 from rfl, gI_lt _ _ e2 (by decide)] at y1
            rw [gI_lit 8, gI_lt _ _ (by decide) e2] at y8
            exact go (vr_err hc _ (by omega) (by omega))
      · rw [if_neg z4, if_neg (fun w => z4 w.1)]
        exact err
theorem t_size (q : cs_st b cap h S L u) : f_A_size (some 16) (gv_ov h S) = some (gI L.length, gv_ov h S) := by
  unfold f_A_size
  rw [gg_16_1, q.1.2.1]
theorem cs_pop (q : cs_st b cap h S L u) (hl : 1 ≤ L.length) {v : Option Nat} : cs_st b cap h (gv_uR (gv_uI S 16 1 (gI (L.length - 1))) 17 (L.length - 1) v) (L.take (L.length - 1)) u ∧ cs_fr S (gv_uR (gv_uI S 16 1 (gI (L.length - 1))) 17 (L.length - 1) v) := by
  obtain ⟨⟨a1, a2, a3⟩, a4⟩ := q
  have el : (L.take (L.length - 1)).length = L.length - 1 := by
    rw [List.length_take]
    omega
  refine ⟨⟨⟨by omega, by rw [el]; rfl, fun m hm => ?_⟩, a4⟩, ⟨fun x y hx => ⟨?_, rfl, ?_⟩, rfl⟩⟩
  · rw [el] at hm
    show ∃ j : Nat, (if 17 = 17 ∧ m = L.length - 1 then v else S.2.2.1 17 m) = some j ∧ _
    rw [if_neg (fun w => by omega)]
    obtain ⟨j, j1, j2⟩ := a3 m (by omega)
    refine ⟨j, j1, ?_⟩
    rw [List.getD_eq_getElem?_getD, List.getElem?_take, if_pos hm, ← List.getD_eq_getElem?_getD]
    exact j2
  · show (if x = 16 ∧ y = 1 then _ else S.1 x y) = S.1 x y
    rw [if_neg (by omega)]
  · show (if x = 17 ∧ y = L.length - 1 then _ else S.2.2.1 x y) = S.2.2.1 x y
    rw [if_neg (by omega)]
def sp_drop (L : List gp_V) : Sum Unit String × List gp_V := if L.length = 0 then (.inr eST, L) else (.inl (), L.take (L.length - 1))
theorem t_drop (q : cs_st b cap h S L u) : cM cap h S (f_A_drop (some 16) (gv_ov h S)) (sp_drop L).1 (sp_drop L).2 u 1 6 := by
  have q0 := q
  obtain ⟨⟨a1, a2, a3⟩, a4⟩ := q
  have z0 : ∀ {β : Type} (x y : β), (if gI L.length = (0 : Int32) then x else y) = if L.length = 0 then x else y := fun x y => ite_eq x y _ 0 (by omega) (by decide)
  unfold f_A_drop sp_drop
  rw [gg_16_1, a2, z0]
  by_cases z : L.length = 0
  · rw [if_pos z, if_pos z]
    exact cM.thr q0 eST
  · rw [if_neg z, if_neg z, gg_16_1, a2, show gI L.length - (1 : Int32) = gI (L.length - 1) from gI_sub _ 1 (by omega), gs_16_1, gr_16_0, gg_16_1, show (gv_uI S 16 1 (gI (L.length - 1))).1 16 1 = gI (L.length - 1) from rfl, gt_17 (by omega) none rfl]
    obtain ⟨p1, p2⟩ := cs_pop q0 (by omega) (v := none)
    exact ⟨h, _, b, cap, rfl, p1, p2, gp_gw.of ((gp_ext.refl h).le (by decide) (by decide))⟩
/-- at a depth -/
theorem t_at (q : cs_st b cap h S L u) (d : Int32) : (d < 0 ∨ gI L.length ≤ d) ∧ f_A_atDepth (some 16) d (gv_ov h S) = some (.inr eIX, gk_thrown (gv_ov h S)) ∨ ¬ d < 0 ∧ ¬ gI L.length ≤ d ∧ d.toNatClampNeg < L.length ∧ ∃ i : Nat, f_A_atDepth (some 16) d (gv_ov h S) = some (.inl (some i), gv_ov h S) ∧ gp_val b h i (L.getD (L.length - 1 - d.toNatClampNeg) gV_d) := by
  obtain ⟨⟨a1, a2, a3⟩, a4⟩ := q
  unfold f_A_atDepth f_A_atDepth_b12
  by_cases z1 : d < 0
  · rw [if_pos z1]
    exact Or.inl ⟨Or.inl z1, rfl⟩
  · obtain ⟨e1, e2⟩ := gI_in z1
    rw [if_neg z1, gg_16_1, a2]
    by_cases z2 : d.toNatClampNeg < L.length
    · have z3 : d < gI L.length := by
        rw [e1, gI_lt _ _ e2 (by omega)]
        exact z2
      have z4 : ¬ gI L.length ≤ d := by
        rw [e1, gI_le _ _ (by omega) e2]
        omega
      obtain ⟨i, i1, i2⟩ := a3 (L.length - 1 - d.toNatClampNeg) (by omega)
      refine Or.inr ⟨z1, z4, z2, i, ?_, i2⟩
      rw [if_pos z3, gr_16_0, gg_16_1, a2]
      have e3 : gI L.length - (1 : Int32) - d = gI (L.length - 1 - d.toNatClampNeg) := by
        rw [show gI L.length - (1 : Int32) = gI (L.length - 1) from gI_sub _ 1 (by omega)]
        conv => lhs; rw [e1]
        exact gI_sub _ _ (by omega)
      rw [e3, ga_17 (by omega), i1]
    · have z3 : ¬ d < gI L.length := by
        rw [e1, gI_lt _ _ e2 (by omega)]
        exact z2
      have z4 : gI L.length ≤ d := by
        rw [e1, gI_le _ _ (by omega) e2]
        omega
      rw [if_neg z3]
      exact Or.inl ⟨Or.inr z4, rfl⟩
def sp_again (L : List gp_V) (d : Int32) : Sum Unit String × List gp_V := if d < 0 ∨ gI L.length ≤ d then (.inr eIX, L) else sp_push L (L.getD (L.length - 1 - d.toNatClampNeg) gV_d)
theorem t_again (q : cs_st b cap h S L u) (d : Int32) : cM cap h S (f_A_again (some 16) d (gv_ov h S)) (sp_again L d).1 (sp_again L d).2 u 1 6 := by
  unfold f_A_again sp_again
  rcases t_at q d with ⟨z, e⟩ | ⟨z1, z2, z3, i, e, hv⟩
  · rw [e, gx_r, if_pos z]
    exact cM.thr q eIX
  · rw [e, gx_l, gx_id, if_neg (fun w => w.elim z1 z2)]
    exact t_push q hv
def sp_about (L : List gp_V) (d w : Int32) : Sum Int32 String := if d < 0 ∨ gI L.length ≤ d then .inr eIX else if w = 0 then .inl (gI (L.getD (L.length - 1 - d.toNatClampNeg) gV_d).1) else if w = 1 then .inl (gI (L.getD (L.length - 1 - d.toNatClampNeg) gV_d).2.1) else if w = 2 then .inl (gI (L.getD (L.length - 1 - d.toNatClampNeg) gV_d).2.2.1) else .inr eAR
theorem cM.ret {α : Type} (q : cs_st b cap h S L u) (r : α) : cM cap h S (some (.inl r, gv_ov h S)) (.inl r) L u 1 6 := ⟨h, S, b, cap, rfl, q, cs_fr.refl S, gp_gw.of ((gp_ext.refl h).le (by decide) (by decide))⟩
theorem t_about (q : cs_st b cap h S L u) (d w : Int32) : cM cap h S (f_A_about (some 16) d w (gv_ov h S)) (sp_about L d w) L u 1 6 := by
  unfold f_A_about sp_about
  rcases t_at q d with ⟨z, e⟩ | ⟨z1, z2, z3, i, e, hv⟩
  · rw [e, gx_r, if_pos z]
    exact cM.thr q eIX
  · obtain ⟨cs, fv⟩ := hv.fld
    rw [e, gx_l, if_neg (show ¬ (d < 0 ∨ gI L.length ≤ d) from fun w => w.elim z1 z2), fl_0 fv, fl_4 fv, fl_5 fv]
    by_cases y0 : w = 0
    · rw [if_pos y0, if_pos y0]
      exact cM.ret q _
    · rw [if_neg y0, if_neg y0]
      by_cases y1 : w = 1
      · rw [if_pos y1, if_pos y1]
        exact cM.ret q _
      · rw [if_neg y1, if_neg y1]
        by_cases y2 : w = 2
        · rw [if_pos y2, if_pos y2]
          exact cM.ret q _
        · rw [if_neg y2, if_neg y2]
          exact cM.thr q eAR
end STK
