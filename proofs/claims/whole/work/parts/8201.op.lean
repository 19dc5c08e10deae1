/-! THE PURE PART: texts wanted, the operators (class) -/
/-- a text wanted: the error, the characters -/
def sp_txt (c : gp_C) : Nat × List Nat := if c.1 = 1 then (if -4831355200913801216 < fd_k c.2.2.1 ∧ fd_k c.2.2.1 < 4831355200913801216 then (0, wr c.2.2.1) else (3, [])) else if c.1 = 3 then (0, if c.2.1 = 1 then nl_T else nl_F) else (sp_err c, c.2.2.2)
def sT (vs : Nat → gp_V) (k : Nat) : Nat × List Nat := sp_txt (sp_1 (vs k))
theorem sp_txt_ok {c : gp_C} (h : gp_okC c) : (sp_txt c).1 ≤ 8 ∧ (sp_txt c).2.length ≤ 255 ∧ ∀ x ∈ (sp_txt c).2, 32 ≤ x ∧ x ≤ 126 := by
  unfold sp_txt
  split
  · split
    · obtain ⟨w1, w2⟩ := wr_ch c.2.2.1
      exact ⟨Nat.zero_le _, Nat.le_trans w1 (by decide), fun x hx => by have := w2 x hx; omega⟩
    · exact ⟨by show (3 : Nat) ≤ 8; decide, Nat.zero_le _, fun x hx => absurd hx List.not_mem_nil⟩
  · split
    · refine ⟨Nat.zero_le _, ?_, ?_⟩
      · show (if c.2.1 = 1 then nl_T else nl_F).length ≤ 255
        split <;> decide
      · show ∀ x ∈ (if c.2.1 = 1 then nl_T else nl_F), 32 ≤ x ∧ x ≤ 126
        split <;> decide
    · exact ⟨sp_err_le h, h.2.2.2.2.2.2.2.2.1, h.2.2.2.2.2.2.2.2.2⟩
/-- the order of two single values -/
def sp_ok1 (c d : gp_C) : Nat := if c.1 = 0 then d.1 else c.1
def sp_ok2 (c d : gp_C) : Nat := if d.1 = 0 then sp_ok1 c d else d.1
def sp_ord (c d : gp_C) : Int := if sp_ok1 c d ≠ sp_ok2 c d then (sp_ok1 c d : Int) - (sp_ok2 c d : Int) else if sp_ok1 c d = 1 then (if fd_k c.2.2.1 < fd_k d.2.2.1 then -1 else if fd_k d.2.2.1 < fd_k c.2.2.1 then 1 else 0) else if sp_ok1 c d = 2 then nl_ord c.2.2.2 d.2.2.2 else (c.2.1 : Int) - (d.2.1 : Int)
def sp_std (o : Nat) (z : Int) : Bool := if o = 8 then decide (z = 0) else if o = 9 then decide (z ≠ 0) else if o = 10 then decide (z < 0) else if o = 11 then decide (0 < z) else if o = 12 then decide (z ≤ 0) else decide (0 ≤ z)
theorem ok_code {c : gp_C} (h : gp_okC c) : c.2.1 ≤ 8 := by
  obtain ⟨h1, h2, h3, h4, h5, h6, h7, h8⟩ := h
  by_cases a : c.1 = 3
  · have := h5 a; omega
  · by_cases q : c.1 = 4
    · have := h6 q; omega
    · have := h7 a q; omega
theorem sp_ord_b {c d : gp_C} (hc : gp_okC c) (hd : gp_okC d) : -100000 ≤ sp_ord c d ∧ sp_ord c d ≤ 100000 := by
  have k1 := hc.1
  have k2 := hd.1
  have c1 := ok_code hc
  have c2 := ok_code hd
  have hb := nl_ord_bound c.2.2.2 d.2.2.2 (ok_t128 hc) (ok_t128 hd) (by have := hc.2.2.2.2.2.2.2.2.1; omega) (by have := hd.2.2.2.2.2.2.2.2.1; omega)
  have o1 : sp_ok1 c d ≤ 4 := by unfold sp_ok1; split <;> omega
  have o2 : sp_ok2 c d ≤ 4 := by unfold sp_ok2; split <;> omega
  unfold sp_ord
  split
  · omega
  · split
    · split
      · omega
      · split <;> omega
    · split
      · exact hb
      · omega
section OP
variable {b i j : Nat} {h : gk_H} {S : gv_S} {vs : Nat → gp_V} {n f : Nat} {row : List UInt64}
theorem a_letters (a : ga b h S vs n) (hc : gp_cs b h) (k : Nat) (hk : k < n) (hf : f ≤ 8) : ∃ r h', f_Ar_lettersOf (some 20) (gI k) (gv_ov h (gA S f row)) = some (some r, gv_ov h' (gA S (bl f (sT vs k).1) row)) ∧ gp_str b h' r (sT vs k).2 ∧ gp_ext 11 336 h h' := by
  have hok := sp_1_ok (a.ok k hk)
  obtain ⟨q, q1, q2⟩ := a_sound (row := row) a k hk hf
  obtain ⟨t1, t2, t3⟩ := sp_txt_ok hok
  have hk4 := hok.1
  have fl := q2.2
  obtain ⟨s, s1, s2⟩ := fl_3 fl
  unfold f_Ar_lettersOf f_Ar_lettersOf_b51 sT sp_txt
  rw [gc_20, q1, gk_ca_some, fl_0 fl]
  by_cases e1 : (sp_1 (vs k)).1 = 1
  · have hse : sp_err (sp_1 (vs k)) = 0 := by unfold sp_err; rw [if_neg (by omega)]
    rw [e1, if_pos (by decide), fl_2 fl, m_canWrite hok.2.1.n, gk_ca_some, ite_B, hse, bl_0, if_pos rfl]
    by_cases z : -4831355200913801216 < fd_k (sp_1 (vs k)).2.2.1 ∧ fd_k (sp_1 (vs k)).2.2.1 < 4831355200913801216
    · obtain ⟨r, h', w1, w2, w3, w4⟩ := m_written (S := gA S f row) hc.1 b hc.2.1 hok.2.1.n hok.2.2.1 z.1 z.2
      rw [if_pos (decide_eq_true z), fl_2 fl, w1, gk_ca_some, if_pos z, bl_0]
      exact ⟨r, h', rfl, w2, w4⟩
    · rw [if_neg (by rw [decide_eq_true_iff]; exact z), gc_20, gI_lit 3, a_blame f 3 hf, gk_ca_some, if_neg z]
      exact ⟨10, h, rfl, hc.2.2.2.2.2.1, (gp_ext.refl h).le (by decide) (by decide)⟩
  · rw [if_neg e1, gI_1, ite_eq _ _ _ _ (by omega) (by decide), if_neg e1, gI_lit 3, ite_eq _ _ _ _ (by omega) (by decide)]
    by_cases e3 : (sp_1 (vs k)).1 = 3
    · have hse : sp_err (sp_1 (vs k)) = 0 := by unfold sp_err; rw [if_neg (by omega)]
      have hcd := ok_code hok
      rw [if_pos e3, if_pos e3, fl_1 fl, ite_eq _ _ _ _ (by omega) (by decide), hse, bl_0]
      by_cases z : (sp_1 (vs k)).2.1 = 1
      · rw [if_pos z, if_pos z]
        exact ⟨6, h, rfl, hc.2.2.2.1, (gp_ext.refl h).le (by decide) (by decide)⟩
      · rw [if_neg z, if_neg z]
        exact ⟨8, h, rfl, hc.2.2.2.2.1, (gp_ext.refl h).le (by decide) (by decide)⟩
    · rw [if_neg e3, if_neg e3, s2]
      exact ⟨s, h, rfl, s1, (gp_ext.refl h).le (by decide) (by decide)⟩
theorem o_takes (o : Nat) (ho : o < 100) (h : gk_H) : f_Op_takesOne (gI o) h = some (gB (decide (o < 2)), h) := by
  unfold f_Op_takesOne f_Op_takesOne_b9 f_Op_takesOne_b14
  rw [gI_0, gI_1, ite_eq _ _ _ _ (by omega) (by decide), ite_eq _ _ _ _ (by omega) (by decide), nbI0, nbI1]
  by_cases z : o = 0
  · rw [if_pos z, z]
    rfl
  · rw [if_neg z]
    by_cases z1 : o = 1
    · rw [if_pos z1, z1]
      rfl
    · rw [if_neg z1, decide_eq_false (by omega)]
      rfl
theorem o_order (hs : gp_st h) {c d : gp_C} (hc : gp_cell b h i c) (hd : gp_cell b h j d) : f_Op_order (some i) (some j) (gv_ov h S) = some (gN (sp_ord c d), gv_ov h S) := by
  have f1 := hc.2
  have f2 := hd.2
  have k1 := hc.1.1
  have k2 := hd.1.1
  obtain ⟨s, s1, s2⟩ := fl_3 f1
  obtain ⟨t, t1, t2⟩ := fl_3 f2
  have l1 := hc.1.2.2.2.2.2.2.2.2.1
  have l2 := hd.1.2.2.2.2.2.2.2.2.1
  have b34 : ∀ x y : Nat, x ≤ 4 → y ≤ 4 → f_Op_order_b34 (some i) (some j) (gI x) (gI y) (gv_ov h S) = some (gN (if x ≠ y then (x : Int) - (y : Int) else if x = 1 then (if fd_k c.2.2.1 < fd_k d.2.2.1 then -1 else if fd_k d.2.2.1 < fd_k c.2.2.1 then 1 else 0) else if x = 2 then nl_ord c.2.2.2 d.2.2.2 else (c.2.1 : Int) - (d.2.1 : Int)), gv_ov h S) := by
    intro x y hx hy
    unfold f_Op_order_b34 f_Op_order_b105
    rw [ite_eq _ _ _ _ (by omega) (by omega)]
    by_cases z : x = y
    · rw [if_pos z, if_neg (show ¬ (x ≠ y) from fun q => q z), gI_1, ite_eq _ _ _ _ (by omega) (by decide), gI_lit 2, ite_eq _ _ _ _ (by omega) (by decide)]
      by_cases z1 : x = 1
      · rw [if_pos z1, if_pos z1, fl_2 f1, fl_2 f2, fi_ge _ _ hc.1.2.1.n hd.1.2.1.n, fl_2 f1, fl_2 f2, fi_le _ _ hc.1.2.1.n hd.1.2.1.n]
        by_cases w : fd_k c.2.2.1 < fd_k d.2.2.1
        · rw [if_neg (show ¬ fd_k d.2.2.1 ≤ fd_k c.2.2.1 by omega), if_pos w]
          rfl
        · rw [if_pos (show fd_k d.2.2.1 ≤ fd_k c.2.2.1 by omega), if_neg w]
          by_cases w2 : fd_k d.2.2.1 < fd_k c.2.2.1
          · rw [if_neg (show ¬ fd_k c.2.2.1 ≤ fd_k d.2.2.1 by omega), if_pos w2]
            rfl
          · rw [if_pos (show fd_k c.2.2.1 ≤ fd_k d.2.2.1 by omega), if_neg w2]
            rfl
      · rw [if_neg z1, if_neg z1]
        by_cases z2 : x = 2
        · rw [if_pos z2, if_pos z2, s2, t2, n_order hs s1 t1 (by omega) (by omega), gk_ca_some]
        · rw [if_neg z2, if_neg z2, fl_1 f1, fl_1 f2, gI_subN]
    · rw [if_neg z, if_pos (show x ≠ y from z), gI_subN]
  have b18 : ∀ x : Nat, x ≤ 4 → f_Op_order_b18 (some i) (some j) (gI x) (gv_ov h S) = f_Op_order_b34 (some i) (some j) (gI x) (gI (if d.1 = 0 then x else d.1)) (gv_ov h S) := by
    intro x hx
    unfold f_Op_order_b18
    rw [fl_0 f2, gI_0, ite_eq _ _ _ _ (by omega) (by decide), fl_0 f2]
    by_cases z : d.1 = 0
    · rw [if_pos z, if_pos z]
    · rw [if_neg z, if_neg z]
  have o1 : sp_ok1 c d ≤ 4 := by unfold sp_ok1; split <;> omega
  have o2 : sp_ok2 c d ≤ 4 := by unfold sp_ok2; split <;> omega
  have fin := b34 (sp_ok1 c d) (sp_ok2 c d) o1 o2
  unfold f_Op_order
  rw [fl_0 f1, gI_0, ite_eq _ _ _ _ (by omega) (by decide), fl_0 f2, fl_0 f1]
  by_cases z : c.1 = 0
  · have e : sp_ok1 c d = d.1 := if_pos z
    rw [if_pos z, b18 _ k2]
    rw [e] at fin
    have e2 : sp_ok2 c d = if d.1 = 0 then d.1 else d.1 := by unfold sp_ok2; rw [e]
    rw [← e2, fin]
    unfold sp_ord
    rw [e]
  · have e : sp_ok1 c d = c.1 := if_neg z
    rw [if_neg z, b18 _ k1]
    rw [e] at fin
    have e2 : sp_ok2 c d = if d.1 = 0 then c.1 else d.1 := by unfold sp_ok2; rw [e]
    rw [← e2, fin]
    unfold sp_ord
    rw [e]
theorem o_stands (o : Nat) (z : Int) (ho : 8 ≤ o) (ho2 : o ≤ 13) (hz : -2147483648 ≤ z ∧ z < 2147483648) (h : gk_H) : f_Op_stands (gI o) (gN z) h = some (gB (sp_std o z), h) := by
  unfold f_Op_stands f_Op_stands_b45 f_Op_stands_b55 f_Op_stands_b65 f_Op_stands_b75 f_Op_stands_b85 f_Op_stands_b95 sp_std
  rw [gI_lit 8, gI_lit 9, gI_lit 10, gI_lit 11, gI_lit 12, ite_eq _ _ _ _ (by omega) (by decide), ite_eq _ _ _ _ (by omega) (by decide), ite_eq _ _ _ _ (by omega) (by decide), ite_eq _ _ _ _ (by omega) (by decide), ite_eq _ _ _ _ (by omega) (by decide), nb0, nb1, gN_0, nte_eq _ _ _ _ hz.1 hz.2 (by decide) (by decide), nte_eq _ _ _ _ hz.1 hz.2 (by decide) (by decide), nte_le _ _ _ _ (by decide) (by decide) hz.1 hz.2, nte_le _ _ _ _ hz.1 hz.2 (by decide) (by decide), nte_lt _ _ _ _ (by decide) (by decide) hz.1 hz.2, nte_lt _ _ _ _ hz.1 hz.2 (by decide) (by decide)]
  have bt : ∀ (p : Prop) [Decidable p], (if p then some ((1 : Int32), h) else some ((gN 0), h)) = some (gB (decide p), h) := fun p _ => by
    by_cases q : p
    · rw [if_pos q, decide_eq_true q]; rfl
    · rw [if_neg q, decide_eq_false q]; rfl
  have bf : ∀ (p q : Prop) [Decidable p] [Decidable q], (q ↔ ¬ p) → (if p then some ((gN 0), h) else some ((1 : Int32), h)) = some (gB (decide q), h) := fun p q _ _ hq => by
    by_cases w : p
    · rw [if_pos w, decide_eq_false (fun z => hq.mp z w)]; rfl
    · rw [if_neg w, decide_eq_true (hq.mpr w)]; rfl
  rw [bt (z = 0), bf (z = 0) (z ≠ 0) Iff.rfl, bf (0 ≤ z) (z < 0) (by omega), bf (z ≤ 0) (0 < z) (by omega), bf (0 < z) (z ≤ 0) (by omega), bf (z < 0) (0 ≤ z) (by omega)]
  split
  · rfl
  · split
    · rfl
    · split
      · rfl
      · split
        · rfl
        · split <;> rfl
def sp_op (o : Nat) (vs : Nat → gp_V) : gp_C :=
  if o = 0 then sx (sN vs 0).1 (gc_n (FP.dsub 0 (sN vs 0).2))
  else if o = 1 then sx (sN vs 0).1 (gc_num (FP.ddiv (sN vs 0).2 0x4059000000000000))
  else if o = 2 then sx (bl (sN vs 0).1 (sN vs 1).1) (sp_pow (sN vs 0).2 (sN vs 1).2)
  else if o = 3 then sx (bl (sN vs 0).1 (sN vs 1).1) (gc_num (FP.dmul (sN vs 0).2 (sN vs 1).2))
  else if o = 4 then sx (bl (sN vs 0).1 (sN vs 1).1) (if fd_k (sN vs 1).2 = 0 then gc_e 2 else gc_num (FP.ddiv (sN vs 0).2 (sN vs 1).2))
  else if o = 5 then sx (bl (sN vs 0).1 (sN vs 1).1) (gc_num (FP.dadd (sN vs 0).2 (sN vs 1).2))
  else if o = 6 then sx (bl (sN vs 0).1 (sN vs 1).1) (gc_num (FP.dsub (sN vs 0).2 (sN vs 1).2))
  else if o = 7 then sx (bl (sT vs 0).1 (sT vs 1).1) (gc_txt ((sT vs 0).2 ++ (sT vs 1).2))
  else sx (bl (sp_err (sp_1 (vs 0))) (sp_err (sp_1 (vs 1)))) (gc_b (sp_std o (sp_ord (sp_1 (vs 0)) (sp_1 (vs 1)))))
theorem o_joined (hc : gp_cs b h) {l t : List Nat} (hi : gp_str b h i l) (hj : gp_str b h j t) (hl : l.length ≤ 255) (ht : t.length ≤ 255) (h1 : ∀ c ∈ l, 32 ≤ c ∧ c ≤ 126) (h2 : ∀ c ∈ t, 32 ≤ c ∧ c ≤ 126) : ∃ r h', f_Op_joined (some i) (some j) (gv_ov h S) = some (some r, gv_ov h' S) ∧ gp_cell b h' r (gc_txt (l ++ t)) ∧ gp_ext 63 2600 h h' := by
  obtain ⟨g1, n1, n2⟩ := lb_new (S := S) (h0 := h) hc.1.1 hc.1 (gp_ext.refl h) 510
  obtain ⟨g2, a1, a2⟩ := lb_appS (S := S) n2 hi (by simp; omega) (by decide)
  obtain ⟨g3, b1, b2⟩ := lb_appS (S := S) a2 hj (by simp; omega) (by decide)
  obtain ⟨r, g4, c1, c2, c3, c4⟩ := lb_str (S := S) b2 b hc.2.1 (by simp; omega)
  have hcs := hc.ext c4
  obtain ⟨r2, g5, d1, d2, d3⟩ := v_txt (S := S) hcs c2 (fun c hm => by
    rcases List.mem_append.mp hm with q | q
    · rcases List.mem_append.mp q with q | q
      · exact absurd q List.not_mem_nil
      · exact h1 c q
    · exact h2 c q)
  unfold f_Op_joined
  rw [n1, lb_cv n2, a1, gk_ca_some, lb_cv a2, b1, gk_ca_some, lb_cv b2, c1, gk_ca_some, d1, gk_ca_some]
  exact ⟨r2, g5, rfl, d2, (c4.trans d3).le (by decide) (by decide)⟩
theorem cR.le {x : Option (Option Nat × gk_H)} {V : gp_V} {c s c' s' : Nat} (q : cR b h S x V c s) (h1 : c ≤ c') (h2 : s ≤ s') : cR b h S x V c' s' := by
  obtain ⟨r, g, S', e, row, V', q1, q2, q3, q4⟩ := q
  exact ⟨r, g, S', e, row, V', q1, q2, q3.le h1 h2, q4⟩
/-- what is made first costs first -/
theorem cR.pre {h' : gk_H} {x : Option (Option Nat × gk_H)} {V : gp_V} {c s c' s' : Nat} (he : gp_ext c s h h') (q : cR b h' S x V c' s') : cR b h S x V (c + c') (s + s') := by
  obtain ⟨r, g, S', e, row, V', q1, q2, q3, q4⟩ := q
  exact ⟨r, g, S', e, row, V', q1, q2, he.trans q3, q4⟩
theorem ga.sT (a : ga b h S vs n) {k : Nat} (hk : k < n) : (sT vs k).1 ≤ 8 ∧ (sT vs k).2.length ≤ 255 ∧ ∀ x ∈ (sT vs k).2, 32 ≤ x ∧ x ≤ 126 := sp_txt_ok (sp_1_ok (a.ok k hk))
theorem fd_100 : fd_f 0x4059000000000000 ∧ fd_k 0x4059000000000000 ≠ 0 := ⟨(fd_pf (by decide)).1, by decide⟩
theorem a_soundE (a : ga b h S vs n) (k : Nat) (hk : k < n) (hf : f ≤ 8) : ∃ j, f_Ar_sound (some 20) (gI k) (gv_ov h (gA S f row)) = some (some j, gv_ov h (gA S (bl f (sp_err (sp_1 (vs k)))) row)) ∧ gp_cell b h j (sp_1 (vs k)) := a_sound a k hk hf
theorem o_answer (a : ga b h S vs n) (hc : gp_cs b h) (o : Nat) (ho : o ≤ 13) (hn1 : 1 ≤ n) (hn2 : 2 ≤ o → 2 ≤ n) : cR b h S (f_Op_answer (gI o) (some 20) (gv_ov h (gA S 0 row))) (gV_1 (sp_op o vs)) 300 8000 := by
  have hn8 := a.1
  have hs := hc.1
  obtain ⟨a1, a2, a3⟩ := a.sN (k := 0) (by omega)
  have hA0 := a_amountN (f := 0) (row := row) a hs 0 (by omega) (by decide)
  rw [bl_n] at hA0
  unfold f_Op_answer f_Op_answer_b28
  rw [o_takes o (by omega), gk_ca_some, ite_B]
  by_cases o2 : o < 2
  · rw [if_pos (decide_eq_true o2), gc_20, gI_0, hA0, gk_ca_some, ite_eq _ _ _ _ (by omega) (by decide)]
    by_cases z : o = 0
    · subst z
      have hn := (fd_neg a1.n).1
      have hf : fd_f (FP.dsub 0 (sN vs 0).2) := (fd_f_k hn).mpr (by have := (fd_f_k a1.n).mp a1; rw [(fd_neg a1.n).2.1]; omega)
      rw [if_pos rfl, fd_dop hn, ca_id]
      exact (cR.of (vr_n hc hf) a3 rfl).le (by decide) (by decide)
    · have z1 : o = 1 := by omega
      subst z1
      have hd := fd_ddiv a1.n fd_100.1 fd_100.2
      rw [if_neg (by decide), fd_dop hd, ca_id]
      exact (cR.of (vr_num hc hd) a3 rfl).le (by decide) (by decide)
  · obtain ⟨b1, b2, b3⟩ := a.sN (k := 1) (by omega)
    have hA1 := a_amountN (f := (sN vs 0).1) (row := row) a hs 1 (by omega) a3
    rw [if_neg (by rw [decide_eq_true_iff]; exact o2), gI_lit 7, ite_eq _ _ _ _ (by omega) (by decide), ite_le _ _ _ _ (by omega) (by decide)]
    by_cases o7 : o = 7
    · subst o7
      obtain ⟨r1, h1, q1, q2, q3⟩ := a_letters (row := row) a hc 0 (by omega) (f := 0) (by decide)
      rw [bl_n] at q1
      obtain ⟨t1, t2, t3⟩ := a.sT (k := 0) (by omega)
      obtain ⟨u1, u2, u3⟩ := a.sT (k := 1) (by omega)
      obtain ⟨r2, h2, w1, w2, w3⟩ := a_letters (row := row) (a.ext q3) (hc.ext q3) 1 (by omega) (f := (sT vs 0).1) t1
      have hc2 := (hc.ext q3).ext w3
      obtain ⟨r3, h3, y1, y2, y3⟩ := o_joined (S := gA S (bl (sT vs 0).1 (sT vs 1).1) row) hc2 (q2.ext w3) w2 t2 u2 t3 u3
      rw [if_pos rfl, gc_20, gI_0, q1, gk_ca_some, gc_20, gI_1, w1, gk_ca_some, y1, gk_ca_some]
      refine ⟨r3, h3, S, _, row, gV_1 _, rfl, y2.val, ((q3.trans w3).trans y3).le (by decide) (by decide), gc_fr.refl S, bl_le t1 u1, ?_⟩
      show _ = gV_1 (sx _ _)
      unfold sx
      split <;> rfl
    · rw [if_neg o7]
      by_cases o8 : o ≤ 7
      · rw [if_pos o8, gc_20, gI_0, hA0, gk_ca_some, gc_20, gI_1, hA1, gk_ca_some, ca_id]
        have hbl := bl_le a3 b3
        have hos : o = 2 ∨ o = 3 ∨ o = 4 ∨ o = 5 ∨ o = 6 := by omega
        unfold f_Op_reckoned f_Op_reckoned_b68
        simp only [ca_id]
        rcases hos with rfl | rfl | rfl | rfl | rfl
        · rw [if_pos (by decide)]
          exact (cR.of (m_power hc a1 b1) hbl rfl).le (by decide) (by decide)
        · have hm := fd_mul_n a1 b1
          rw [if_neg (by decide), if_pos (by decide), fd_dop hm]
          exact (cR.of (vr_num hc hm) hbl rfl).le (by decide) (by decide)
        · rw [if_neg (by decide), if_neg (by decide), if_pos (by decide), fi_eq _ _ b1.n fd_0_n, fd_k0]
          by_cases z : fd_k (sN vs 1).2 = 0
          · rw [if_pos z]
            refine (cR.of (vr_err hc 2 (by decide) (by decide)) hbl ?_).le (by decide) (by decide)
            show _ = sx _ _
            rw [if_pos z]
          · have hd := fd_ddiv a1.n b1 z
            rw [if_neg z, fd_dop hd]
            refine (cR.of (vr_num hc hd) hbl ?_).le (by decide) (by decide)
            show _ = sx _ _
            rw [if_neg z]
        · have hm := fd_add_n a1 b1
          rw [if_neg (by decide), if_neg (by decide), if_neg (by decide), if_pos (by decide), fd_dop hm]
          exact (cR.of (vr_num hc hm) hbl rfl).le (by decide) (by decide)
        · have hm := fd_sub_n a1 b1
          rw [if_neg (by decide), if_neg (by decide), if_neg (by decide), if_neg (by decide), if_pos (by decide), fd_dop hm]
          exact (cR.of (vr_num hc hm) hbl rfl).le (by decide) (by decide)
      · have e0 := sp_err_le (sp_1_ok (a.ok 0 (by omega)))
        have e1 := sp_err_le (sp_1_ok (a.ok 1 (by omega)))
        obtain ⟨j1, q1, q2⟩ := a_soundE (row := row) (f := 0) a 0 (by omega) (by decide)
        rw [bl_n] at q1
        obtain ⟨j2, w1, w2⟩ := a_soundE (row := row) (f := sp_err (sp_1 (vs 0))) a 1 (by omega) e0
        have hb := sp_ord_b q2.1 w2.1
        have ht := v_tru (S := gA S (bl (sp_err (sp_1 (vs 0))) (sp_err (sp_1 (vs 1)))) row) hc (sp_std o (sp_ord (sp_1 (vs 0)) (sp_1 (vs 1))))
        rw [if_neg o8, gc_20, gI_0, q1, gk_ca_some, gc_20, gI_1, w1, gk_ca_some, o_order hs q2 w2, gk_ca_some, o_stands o _ (by omega) (by omega) (by omega), gk_ca_some, ca_id]
        refine (cR.of (c := gc_b (sp_std o (sp_ord (sp_1 (vs 0)) (sp_1 (vs 1))))) (e := bl (sp_err (sp_1 (vs 0))) (sp_err (sp_1 (vs 1)))) (row := row) ht (bl_le e0 e1) ?_).le (by decide) (by decide)
        unfold sp_op
        rw [if_neg (by omega), if_neg (by omega), if_neg (by omega), if_neg (by omega), if_neg (by omega), if_neg (by omega), if_neg (by omega), if_neg (by omega)]
end OP
