/-! THE PURE PART: criteria (class) -/
def sp_c0 (l : List Nat) : Nat := if l = [] then 32 else l.getD 0 0
def sp_c1 (l : List Nat) : Nat := if l.length < 2 then 32 else l.getD 1 0
def sp_rel (l : List Nat) : Nat := if sp_c0 l = 60 then (if sp_c1 l = 62 then 9 else if sp_c1 l = 61 then 12 else 10) else if sp_c0 l = 62 then (if sp_c1 l = 61 then 13 else 11) else 8
def sp_sl (l : List Nat) : Nat := if sp_rel l = 9 ∨ sp_rel l = 12 ∨ sp_rel l = 13 then 2 else if sp_rel l = 10 ∨ sp_rel l = 11 then 1 else if l ≠ [] ∧ l.getD 0 0 = 61 then 1 else 0
def sp_wan (c : gp_C) : gp_C := if c.1 = 0 then gc_n 0 else if c.1 = 2 then (if nl_is (c.2.2.2.drop (sp_sl c.2.2.2)) = true then gc_n (nl_val (c.2.2.2.drop (sp_sl c.2.2.2))) else gc_t (c.2.2.2.drop (sp_sl c.2.2.2))) else c
def sp_byl (rel : Nat) (w : gp_C) : Bool := w.1 == 2 && (rel == 8 || rel == 9)
def sp_met (rel : Nat) (w c : gp_C) : Bool := if c.1 = 4 ∨ w.1 = 4 then false else if c.1 ≠ w.1 then (rel == 9 || (sp_byl rel w && (c.1 == 0 && w.2.2.2.isEmpty))) else if sp_byl rel w = true then (if rel = 8 then lk false (lk_tk w.2.2.2) c.2.2.2 else !lk false (lk_tk w.2.2.2) c.2.2.2) else sp_std rel (sp_ord c w)
theorem sp_rel_b (l : List Nat) : 8 ≤ sp_rel l ∧ sp_rel l ≤ 13 := by
  unfold sp_rel
  split
  · split
    · omega
    · split <;> omega
  · split
    · split <;> omega
    · omega
theorem sp_c_some {l : List Nat} (h : sp_c0 l = 60 ∨ sp_c0 l = 62) : 1 ≤ l.length := by
  cases l with
  | nil =>
    unfold sp_c0 at h
    rw [if_pos rfl] at h
    omega
  | cons c t => rw [List.length_cons]; omega
theorem sp_sl_b (l : List Nat) : sp_sl l ≤ l.length := by
  have hc1 : sp_c1 l ≠ 32 → 2 ≤ l.length := fun z => by
    unfold sp_c1 at z
    split at z
    · exact absurd rfl z
    · omega
  have h0 : l ≠ [] → 1 ≤ l.length := fun z => by
    cases l with
    | nil => exact absurd rfl z
    | cons c t => rw [List.length_cons]; omega
  unfold sp_sl
  by_cases a : sp_c0 l = 60
  · have := sp_c_some (Or.inl a)
    have e : sp_rel l = if sp_c1 l = 62 then 9 else if sp_c1 l = 61 then 12 else 10 := by unfold sp_rel; rw [if_pos a]
    by_cases q : sp_c1 l = 62
    · have := hc1 (by omega)
      rw [if_pos q] at e
      rw [if_pos (Or.inl e)]
      omega
    · by_cases q2 : sp_c1 l = 61
      · have := hc1 (by omega)
        rw [if_neg q, if_pos q2] at e
        rw [if_pos (Or.inr (Or.inl e))]
        omega
      · rw [if_neg q, if_neg q2] at e
        rw [if_neg (by omega), if_pos (by omega)]
        omega
  · by_cases a2 : sp_c0 l = 62
    · have := sp_c_some (Or.inr a2)
      have e : sp_rel l = if sp_c1 l = 61 then 13 else 11 := by unfold sp_rel; rw [if_neg a, if_pos a2]
      by_cases q2 : sp_c1 l = 61
      · have := hc1 (by omega)
        rw [if_pos q2] at e
        rw [if_pos (Or.inr (Or.inr e))]
        omega
      · rw [if_neg q2] at e
        rw [if_neg (by omega), if_pos (by omega)]
        omega
    · have e : sp_rel l = 8 := by unfold sp_rel; rw [if_neg a, if_neg a2]
      rw [if_neg (by omega), if_neg (by omega)]
      split
      · rename_i q
        exact h0 q.1
      · omega
theorem sp_wan_ok {c : gp_C} (h : gp_okC c) : gp_okC (sp_wan c) := by
  unfold sp_wan
  split
  · exact gp_okn fd_f0
  · split
    · rename_i e2
      split
      · rename_i e
        exact gp_okn (nl_val_f e)
      · refine gp_okt ?_ fun x hx => h.2.2.2.2.2.2.2.2.2 x (List.mem_of_mem_drop hx)
        rw [List.length_drop]
        have := h.2.2.2.2.2.2.2.2.1
        omega
    · exact h
def gp_cri (b : Nat) (h : gk_H) (i rel w : Nat) : Prop := i < h.1 ∧ gp_im b i ∧ (h.2.2 i).1 = 16 ∧ (h.2.2 i).2.2 0 = .int (gI rel) ∧ (h.2.2 i).2.2 1 = va_rf (some w) ∧ (h.2.2 i).2.2 2 = va_rf (some 26)
section CRT
variable {b i j : Nat} {h : gk_H} {S : gv_S} {l : List Nat}
theorem c_first (hs : gp_st h) (a : gp_str b h i l) : f_Cr_relationOf (some i) (gv_ov h S) = some (gI (sp_rel l), gv_ov h S) := by
  obtain ⟨-, a2, a3, -, q, -, -, -, -, -, g3, g4⟩ := id a
  have b36 : ∀ x y : Nat, x < 128 → y < 128 → f_Cr_relationOf_b36 (gI x) (gI y) (gv_ov h S) = some (gI (if x = 60 then (if y = 62 then 9 else if y = 61 then 12 else 10) else if x = 62 then (if y = 61 then 13 else 11) else 8), gv_ov h S) := by
    intro x y hx hy
    unfold f_Cr_relationOf_b36 f_Cr_relationOf_b67 f_Cr_relationOf_b87
    rw [gI_lit 60, gI_lit 62, gI_lit 61, ite_eq _ _ _ _ (by omega) (by decide), ite_eq _ _ _ _ (by omega) (by decide), ite_eq _ _ _ _ (by omega) (by decide), ite_eq _ _ _ _ (by omega) (by decide), ite_eq _ _ _ _ (by omega) (by decide)]
    split
    · split
      · rfl
      · split <;> rfl
    · split
      · split <;> rfl
      · rfl
  have b17 : ∀ x : Nat, x < 128 → f_Cr_relationOf_b17 (some i) (gI x) (gv_ov h S) = some (gI (if x = 60 then (if sp_c1 l = 62 then 9 else if sp_c1 l = 61 then 12 else 10) else if x = 62 then (if sp_c1 l = 61 then 13 else 11) else 8), gv_ov h S) := by
    intro x hx
    unfold f_Cr_relationOf_b17 sp_c1
    rw [gp_cv a2.1 a3, s_len hs a, gk_ca_some, gI_lit 2, ite_le _ _ _ _ (by decide) (by omega)]
    by_cases z : l.length < 2
    · rw [if_neg (by omega), if_pos z]
      exact b36 x 32 hx (by decide)
    · rw [if_pos (by omega), if_neg z, gp_cv a2.1 a3, gI_1, s_charAt hs a (by omega), gk_ca_some]
      exact b36 x _ hx (g4 1 (by omega)).2
  unfold f_Cr_relationOf
  rw [gp_cv a2.1 a3, s_emp a, gk_ca_some]
  by_cases z : l = []
  · rw [if_pos z, if_neg (by decide)]
    have e : sp_c0 l = 32 := if_pos z
    have := b17 32 (by decide)
    rw [← e] at this
    have h32 : f_Cr_relationOf_b17 (some i) (32 : Int32) (gv_ov h S) = _ := b17 32 (by decide)
    rw [h32]
    unfold sp_rel
    rw [e]
  · have hl : 0 < l.length := by
      cases l with
      | nil => exact absurd rfl z
      | cons c t => rw [List.length_cons]; omega
    have e : sp_c0 l = l.getD 0 0 := if_neg z
    rw [if_neg z, if_pos rfl, gp_cv a2.1 a3, gI_0, s_charAt hs a hl, gk_ca_some, b17 _ (g4 0 hl).2]
    unfold sp_rel
    rw [e]
theorem c_sign (hs : gp_st h) (a : gp_str b h i l) : f_Cr_signLength (some i) (gv_ov h S) = some (gI (sp_sl l), gv_ov h S) := by
  obtain ⟨-, a2, a3, -, q, -, -, -, -, -, g3, g4⟩ := id a
  obtain ⟨r1, r2⟩ := sp_rel_b l
  unfold f_Cr_signLength f_Cr_signLength_b40 f_Cr_signLength_b42 f_Cr_signLength_b65 f_Cr_signLength_b66 sp_sl
  rw [c_first hs a, gk_ca_some, gI_lit 9, gI_lit 10, gI_lit 11, gI_lit 12, gI_lit 13, ite_eq _ _ _ _ (by omega) (by decide), ite_eq _ _ _ _ (by omega) (by decide), ite_eq _ _ _ _ (by omega) (by decide), ite_eq _ _ _ _ (by omega) (by decide), ite_eq _ _ _ _ (by omega) (by decide)]
  have hr : sp_rel l = 8 ∨ sp_rel l = 9 ∨ sp_rel l = 10 ∨ sp_rel l = 11 ∨ sp_rel l = 12 ∨ sp_rel l = 13 := by omega
  rcases hr with e | e | e | e | e | e
  · rw [e, if_neg (by decide), if_neg (by decide), if_neg (by decide), if_neg (by decide), if_neg (by decide), if_neg (by decide), if_neg (by decide), gp_cv a2.1 a3, s_emp a, gk_ca_some]
    by_cases z : l = []
    · rw [if_pos z, if_neg (by decide), if_neg (fun w => w.1 z)]
      rfl
    · have hl : 0 < l.length := by
        cases l with
        | nil => exact absurd rfl z
        | cons c t => rw [List.length_cons]; omega
      have hc := (g4 0 hl).2
      rw [if_neg z, if_pos rfl, gp_cv a2.1 a3, gI_0, s_charAt hs a hl, gk_ca_some, gI_lit 61, ite_eq _ _ _ _ (by omega) (by decide)]
      by_cases w : l.getD 0 0 = 61
      · rw [if_pos w, if_pos ⟨z, w⟩]
        rfl
      · rw [if_neg w, if_neg (fun q => w q.2)]
  · rw [e, if_pos (by decide), if_pos (by decide)]; rfl
  · rw [e, if_neg (by decide), if_pos (by decide), if_neg (by decide), if_pos (by decide)]; rfl
  · rw [e, if_neg (by decide), if_neg (by decide), if_pos (by decide), if_neg (by decide), if_pos (by decide)]; rfl
  · rw [e, if_neg (by decide), if_neg (by decide), if_neg (by decide), if_pos (by decide), if_pos (by decide)]; rfl
  · rw [e, if_neg (by decide), if_neg (by decide), if_neg (by decide), if_neg (by decide), if_pos (by decide), if_pos (by decide)]; rfl
theorem c_wanted (hc : gp_cs b h) {c : gp_C} (a : gp_cell b h i c) : ∃ w h', f_Cr_wantedOf (some i) (gv_ov h S) = some (some w, gv_ov h' S) ∧ gp_cell b h' w (sp_wan c) ∧ gp_ext 3 270 h h' := by
  have fl := a.2
  have k4 := a.1.1
  obtain ⟨s, s1, s2⟩ := fl_3 fl
  have hl255 := a.1.2.2.2.2.2.2.2.2.1
  unfold f_Cr_wantedOf f_Cr_wantedOf_b58 sp_wan
  simp only [ca_id]
  rw [fl_0 fl, gI_0, ite_eq _ _ _ _ (by omega) (by decide), fl_0 fl, gI_lit 2, ite_eq _ _ _ _ (by omega) (by decide)]
  by_cases e0 : c.1 = 0
  · obtain ⟨r, h', q1, q2, q3⟩ := vr_n (S := S) hc fd_f0
    rw [if_pos e0, if_pos e0]
    exact ⟨r, h', q1, q2, q3.le (by decide) (by decide)⟩
  · rw [if_neg e0, if_neg e0]
    by_cases e2 : c.1 = 2
    · have hsl := sp_sl_b c.2.2.2
      obtain ⟨r, h1, q1, q2, q3⟩ := s_sub1 (S := S) hc.1 hc.2.2.2.2.2.2 s1 (sp_sl c.2.2.2) hsl hc.2.1
      have hc1 := hc.ext q3
      have s1g := id s1
      obtain ⟨-, w2, w3, -⟩ := s1g
      have hdl : (c.2.2.2.drop (sp_sl c.2.2.2)).length ≤ 255 := by rw [List.length_drop]; omega
      rw [if_pos e2, if_pos e2, s2, s2, c_sign hc.1 s1, gk_ca_some, gp_cv w2.1 w3, q1, gk_ca_some, n_is hc1.1 q2 (by omega), gk_ca_some]
      by_cases z : nl_is (c.2.2.2.drop (sp_sl c.2.2.2)) = true
      · obtain ⟨n1, n2, n3⟩ := n_num (S := S) hc1.1 q2 (by omega) (nl_is_dig z)
        obtain ⟨r2, h2, t1, t2, t3⟩ := vr_n (S := S) hc1 (nl_val_f z)
        rw [if_pos z, if_pos z, if_neg (by decide), n1, gk_ca_some, t1]
        exact ⟨r2, h2, rfl, t2, (q3.trans t3).le (by decide) (by omega)⟩
      · obtain ⟨r2, h2, t1, t2, t3⟩ := v_txt (S := S) hc1 q2 (fun x hx => a.1.2.2.2.2.2.2.2.2.2 x (List.mem_of_mem_drop hx))
        have hg : gc_txt (c.2.2.2.drop (sp_sl c.2.2.2)) = gc_t (c.2.2.2.drop (sp_sl c.2.2.2)) := if_pos hdl
        rw [if_neg z, if_neg z, if_pos (show (0 : Int32) = gI 0 from rfl), t1]
        rw [hg] at t2
        exact ⟨r2, h2, rfl, t2, (q3.trans t3).le (by decide) (by omega)⟩
    · rw [if_neg e2, if_neg e2]
      exact ⟨i, h, rfl, a, (gp_ext.refl h).le (by decide) (by decide)⟩
theorem c_of (hc : gp_cs b h) {c : gp_C} (a : gp_cell b h i c) (T : gv_S) : ∃ r w h' T', f_Cr_of (some i) (some 26) (gv_ov h T) = some (some r, gv_ov h' T') ∧ mX mLk T T' ∧ gp_cri b h' r (sp_rel c.2.2.2) w ∧ gp_cell b h' w (sp_wan c) ∧ lkM T' (lk_tk (sp_wan c).2.2.2) ∧ gp_ext 4 273 h h' := by
  obtain ⟨w, h1, q1, q2, q3⟩ := c_wanted (S := T) hc a
  have hc1 := hc.ext q3
  have fw := q2.2
  obtain ⟨s, s1, s2⟩ := fl_3 fw
  have hwl := q2.1.2.2.2.2.2.2.2.2.1
  obtain ⟨T', p1, p2, p3⟩ := l_prepare hc1.1 s1 hwl T
  have a1 := a.ext q3
  obtain ⟨s', s1', s2'⟩ := fl_3 a1.2
  have h44 := hc1.1.1
  have fh : gv_fx h1.1 = false := gv_fx_hi h44
  have e0 : (gk_mkO h1 6 3).2.2 h1.1 = (16, 3, fun k => defaultValue (gk_ty 6 k)) := gp_new_at _ _ _
  have e1 : ∀ j, j ≠ h1.1 → (gk_mkO h1 6 3).2.2 j = h1.2.2 j := fun j hj => gp_new_ne _ _ _ _ hj
  have x0 : gp_ext 1 3 h1 (gk_mkO h1 6 3) := ⟨by show h1.1 ≤ h1.1 + 1; omega, Nat.le_refl _, Nat.le_refl _, fun j hj => e1 j (by omega)⟩
  have a2 := a1.ext x0
  obtain ⟨s3, s4, s5⟩ := fl_3 a2.2
  let g : Nat → Value := gk_put (gk_put (gk_put (fun k => defaultValue (gk_ty 6 k)) 0 (.int (gI (sp_rel c.2.2.2)))) 1 (va_rf (some w))) 2 (va_rf (some 26))
  let h' : gk_H := (h1.1 + 1, h1.2.1 + 3, fun j => if j = h1.1 then (16, 3, g) else h1.2.2 j)
  have hx : gp_ext 1 3 h1 h' := ⟨by show h1.1 ≤ h1.1 + 1; omega, Nat.le_refl _, Nat.le_refl _, fun j hj => if_neg (by omega)⟩
  have ea : h'.2.2 h1.1 = (16, 3, g) := if_pos rfl
  refine ⟨h1.1, w, h', T', ?_, p2, ?_, q2.ext hx, p3, (q3.trans hx).le (by decide) (by decide)⟩
  · unfold f_Cr_of
    rw [q1, gk_ca_some, s2, gc_26, p1, gk_ca_some, gp_nw 3 h44, s5, c_first (hc1.ext x0).1 s4, gk_ca_some, gp_cv fh (by rw [e0])]
    unfold f_Cr_init
    simp only [Option.bind_some]
    rw [gp_set fh (by omega) (by rw [e0]) (gv_fitI 6 0 rfl _), e0]
    rw [gp_set fh (by omega) (by rw [gp_upd_at]) (gv_fitO 6 1 "ValueAlgebra$Value" rfl _), gp_upd_at]
    rw [gp_set fh (by omega) (by rw [gp_upd_at]) (gv_fitO 6 2 "ValueAlgebra$Likeness" rfl _), gp_upd_at, gk_ca_some]
    congr 2
    refine congrArg (fun z => gv_ov z T') (gv_ext rfl rfl fun j => ?_)
    by_cases ej : j = h1.1
    · subst ej
      rw [gp_upd_at]
      exact ea.symm
    · rw [gp_upd_ne _ _ _ _ ej, gp_upd_ne _ _ _ _ ej, gp_upd_ne _ _ _ _ ej, e1 _ ej]
      exact (if_neg ej).symm
  · unfold gp_cri
    rw [ea]
    exact ⟨by show h1.1 < h1.1 + 1; omega, gp_im_hi h44 (by have := hc1.2.1; omega), rfl, rfl, rfl, rfl⟩
theorem c_met (hs : gp_st h) {r w rel : Nat} {wc c : gp_C} (hr : gp_cri b h r rel w) (hw : gp_cell b h w wc) (hj : gp_cell b h j c) (hrel : 8 ≤ rel ∧ rel ≤ 13) (T : gv_S) (hM : lkM T (lk_tk wc.2.2.2)) : ∃ T', f_Cr_isMetBy (some r) (some j) (gv_ov h T) = some (gB (sp_met rel wc c), gv_ov h T') ∧ mX mLk T T' ∧ lkM T' (lk_tk wc.2.2.2) := by
  obtain ⟨r1, r2, r3, r4, r5, r6⟩ := hr
  have fw := hw.2
  have fj := hj.2
  have kw := hw.1.1
  have kj := hj.1.1
  have gi : ∀ {β : Type} (T : gv_S) (K : Int32 → Option β), ((gk_get (gv_ov h T) (some r) 6 0).bind gk_asI).bind K = K (gI rel) := fun T K => gp_getI r2.1 r3 r4 K
  have gw : ∀ {β : Type} (T : gv_S) (K : Option Nat → Option β), ((gk_get (gv_ov h T) (some r) 6 1).bind gk_asR).bind K = K (some w) := fun T K => gp_getR r2.1 r3 r5 K
  have gl : ∀ {β : Type} (T : gv_S) (K : Option Nat → Option β), ((gk_get (gv_ov h T) (some r) 6 2).bind gk_asR).bind K = K (some 26) := fun T K => gp_getR r2.1 r3 r6 K
  have gc : ∀ {α β : Type} (T : gv_S) (x : Option (α × gk_H)) (K : α → gk_H → Option β), gk_cv (gv_ov h T) (some r) 6 x K = gk_ca x K := fun T x K => gp_cv r2.1 r3 x K
  obtain ⟨s, s1, s2⟩ := fl_3 fj
  obtain ⟨t, t1, t2⟩ := fl_3 fw
  have hjl := hj.1.2.2.2.2.2.2.2.2.1
  have hwl := hw.1.2.2.2.2.2.2.2.2.1
  have fin : ∀ (B : Bool), B = sp_met rel wc c → ∃ T', some (gB B, gv_ov h T) = some (gB (sp_met rel wc c), gv_ov h T') ∧ mX mLk T T' ∧ lkM T' (lk_tk wc.2.2.2) := fun B hB => ⟨T, by rw [hB], mX.refl _ _, hM⟩
  have t1g := id t1
  obtain ⟨-, tt2, tt3, -⟩ := t1g
  unfold f_Cr_isMetBy f_Cr_isMetBy_b19 f_Cr_isMetBy_b50 f_Cr_isMetBy_b54
  rw [fl_0 fj, gw, fl_0 fw, gw, fl_0 fw, gi, gi, nb0, gI_lit 4, gI_lit 2, gI_lit 8, gI_lit 9, ite_eq _ _ _ _ (by omega) (by decide), ite_eq _ _ _ _ (by omega) (by decide), ite_eq _ _ _ _ (by omega) (by decide), ite_eq _ _ _ _ (by omega) (by decide), ite_eq _ _ _ _ (by omega) (by decide)]
  by_cases z1 : c.1 = 4
  · rw [if_pos z1]
    exact fin false (by unfold sp_met; rw [if_pos (Or.inl z1)])
  · rw [if_neg z1]
    by_cases z2 : wc.1 = 4
    · rw [if_pos z2]
      exact fin false (by unfold sp_met; rw [if_pos (Or.inr z2)])
    · rw [if_neg z2]
      have hg : ¬ (c.1 = 4 ∨ wc.1 = 4) := by omega
      have b55 : ∀ bl : Bool, bl = sp_byl rel wc → ∃ T', f_Cr_isMetBy_b55 (some r) (some j) (gB bl) (gv_ov h T) = some (gB (sp_met rel wc c), gv_ov h T') ∧ mX mLk T T' ∧ lkM T' (lk_tk wc.2.2.2) := by
        intro bl hbl
        unfold f_Cr_isMetBy_b55 f_Cr_isMetBy_b91 f_Cr_isMetBy_b95 f_Cr_isMetBy_b96
        rw [fl_0 fj, gw, fl_0 fw, ite_eq _ _ _ _ (by omega) (by omega), ite_B, gi]
        by_cases z3 : c.1 = wc.1
        · have hne : ¬ (c.1 ≠ wc.1) := fun q => q z3
          rw [if_pos z3]
          by_cases z4 : bl = true
          · obtain ⟨T', m1, m2, m3⟩ := l_met (h := h) hs s1 hjl _ (Nat.le_trans (lk_tk_len _) hwl) (lk_tk_b _ (ok_t128 hw.1)) T hM
            rw [if_pos z4, gl, s2, gc_26, m1, gk_ca_some, gi, gI_lit 8, ite_eq _ _ _ _ (by omega) (by decide)]
            have e : sp_met rel wc c = if rel = 8 then lk false (lk_tk wc.2.2.2) c.2.2.2 else !lk false (lk_tk wc.2.2.2) c.2.2.2 := by
              unfold sp_met
              rw [if_neg hg, if_neg hne, if_pos (by rw [← hbl]; exact z4)]
            refine ⟨T', ?_, m2, m3⟩
            unfold f_Cr_isMetBy_b126 f_Cr_isMetBy_b134
            rw [nb0, nb1, e]
            by_cases z8 : rel = 8
            · rw [if_pos z8, if_pos z8]
              cases lk false (lk_tk wc.2.2.2) c.2.2.2
              · rfl
              · rfl
            · rw [if_neg z8, if_neg z8]
              cases lk false (lk_tk wc.2.2.2) c.2.2.2
              · rfl
              · rfl
          · have ho := sp_ord_b hj.1 hw.1
            rw [if_neg z4, gw, o_order hs hj hw, gk_ca_some, o_stands rel _ hrel.1 hrel.2 (by omega), gk_ca_some, nbB]
            exact fin _ (by
              unfold sp_met
              rw [if_neg hg, if_neg hne, if_neg (by rw [← hbl]; exact z4)])
        · rw [if_neg z3, gi, gI_lit 9, ite_eq _ _ _ _ (by omega) (by decide), nb0, nb1, gc, ite_B]
          have e : sp_met rel wc c = (rel == 9 || (sp_byl rel wc && (c.1 == 0 && wc.2.2.2.isEmpty))) := by
            unfold sp_met
            rw [if_neg hg, if_pos (show c.1 ≠ wc.1 from z3)]
          by_cases z9 : rel = 9
          · rw [if_pos z9]
            exact fin true (by rw [e, z9]; rfl)
          · rw [if_neg z9]
            have e9 : (rel == 9) = false := by simp [z9]
            by_cases z4 : bl = true
            · rw [if_pos z4]
              unfold f_Cr_isBothEmpty f_Cr_isBothEmpty_b24 f_Cr_isBothEmpty_b25
              rw [fl_0 fj, gI_0, ite_eq _ _ _ _ (by omega) (by decide), gw, t2, gp_cv tt2.1 tt3, s_emp t1, gk_ca_some, nbI0, nb1]
              by_cases z0 : c.1 = 0
              · rw [if_pos z0]
                by_cases zw : wc.2.2.2 = []
                · rw [if_pos zw, if_neg (by decide), gk_ca_some, if_neg (by decide)]
                  exact fin true (by rw [e, e9, ← hbl, z4, z0, zw]; rfl)
                · rw [if_neg zw]
                  have : wc.2.2.2.isEmpty = false := List.isEmpty_eq_false_iff.mpr zw
                  exact fin false (by rw [e, e9, ← hbl, z4, z0, this]; rfl)
              · rw [if_neg z0]
                have : (c.1 == 0) = false := by simp [z0]
                exact fin false (by rw [e, e9, ← hbl, z4, this]; rfl)
            · rw [if_neg z4]
              exact fin false (by rw [e, e9, ← hbl, Bool.eq_false_iff.mpr z4]; rfl)
      by_cases z5 : wc.1 = 2
      · rw [if_pos z5]
        by_cases z8 : rel = 8
        · rw [if_pos z8]
          exact b55 true (by unfold sp_byl; simp [z5, z8])
        · rw [if_neg z8]
          by_cases z9 : rel = 9
          · rw [if_pos z9]
            exact b55 true (by unfold sp_byl; simp [z5, z9])
          · rw [if_neg z9]
            exact b55 false (by unfold sp_byl; simp [z8, z9])
      · rw [if_neg z5]
        exact b55 false (by unfold sp_byl; simp [z5])
end CRT
