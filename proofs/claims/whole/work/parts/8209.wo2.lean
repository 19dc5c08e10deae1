/-! THE PURE PART: wording, functions 56 to 73 (class) -/
section WO2
variable {b n : Nat} {h : gk_H} {S : gv_S} {vs : Nat → gp_V} {f : Nat} {row : List UInt64} {j i : Nat} {l t : List Nat}
theorem gp_sb.ext {c s1 s a cap : Nat} {h' : gk_H} (q : gp_sb h s a cap l) (e : gp_ext c s1 h h') : gp_sb h' s a cap l := by
  obtain ⟨q1, q2, q3⟩ := q
  have e1 := e.2.2.2 s q1
  have e2 := e.2.2.2 a q2
  have e0 := e.1
  refine ⟨by omega, by omega, ?_⟩
  rw [e1, e2]
  exact q3
theorem gp_lb.more {c s1 s m c0 s0 : Nat} {h0 h' : gk_H} (q : gp_lb h0 h s m c0 s0 l) (e : gp_ext c s1 h h') : gp_lb h0 h' s m (c0 + c) (s0 + s1) l := by
  obtain ⟨a, cap, q1, q2, q3, q4, q5, q6, q7, q8, q9, q10⟩ := q
  obtain ⟨e1, e2, e3, e4⟩ := id e
  exact ⟨a, cap, q1.ext e, q2, q3, q4, q5.ext e, q6, by omega, by omega, by omega, fun i hi => by rw [e4 i (by omega), q10 i hi]⟩
theorem gp_lb.arr {s m c0 s0 : Nat} {h0 : gk_H} (q : gp_lb h0 h s m c0 s0 l) : ∃ a, h0.1 ≤ a ∧ a < h.1 ∧ s < h.1 ∧ ∀ a' : Nat, (h.2.2 s).2.2 0 = va_rf (some a') → a' = a := by
  obtain ⟨a, cap, q1, q2, q3, q4⟩ := q
  refine ⟨a, q3, q1.2.1, q1.1, fun a' hx => ?_⟩
  rw [q1.2.2.2.2.2.2.2.1] at hx
  simp only [va_rf] at hx
  injection hx with hx
  exact hx.symm
theorem lb_appL {c s1 s m c0 s0 a r : Nat} {h0 h' : gk_H} (q : gp_lb h0 h s m c0 s0 l) (e : gp_ext c s1 h h') (hs : s < h.1) (ha : ∀ a' : Nat, (h.2.2 s).2.2 0 = va_rf (some a') → a' = a) (hr : gp_str a h' r t) (hl : l.length + t.length ≤ m) (hm : m ≤ 9000) : ∃ h'', f_SB_append_String (some s) (some r) (gv_ov h' S) = some (some s, gv_ov h'' S) ∧ gp_lb h0 h'' s m (c0 + c) (s0 + s1) (l ++ t) :=
  lb_appS' (q.more e) (fun a' _ _ hx => by
    rw [e.2.2.2 s hs] at hx
    rw [ha a' hx]
    exact hr) hl hm
theorem gp_cs.at {b' c s : Nat} {h' : gk_H} (hc : gp_cs b h) (e : gp_ext c s h h') (h1 : h.1 ≤ b') (h2 : b' < h'.1) : gp_cs b' h' := ⟨hc.1.ext e, h2, (hc.2.2.1.other h1).ext e, (hc.2.2.2.1.other h1).ext e, (hc.2.2.2.2.1.other h1).ext e, (hc.2.2.2.2.2.1.other h1).ext e, (hc.2.2.2.2.2.2.other h1).ext e⟩
theorem gp_fld.other {b' kind code r c : Nat} {amt : UInt64} {cs : Option Nat} (a : gp_fld b h i kind code amt l r c cs) (hb : h.1 ≤ b') : gp_fld b' h i kind code amt l r c cs := by
  obtain ⟨a1, a2, a3, a4, a5, a6, ⟨s, a7, a8⟩, a9⟩ := a
  exact ⟨a1, ⟨a2.1, a2.2.1, by omega⟩, a3, a4, a5, a6, ⟨s, a7, a8.other hb⟩, a9⟩
theorem gp_cell.other {b' : Nat} {v : gp_C} (a : gp_cell b h i v) (hb : h.1 ≤ b') : gp_cell b' h i v := ⟨a.1, a.2.other hb⟩
theorem gp_val.other {b' : Nat} {V : gp_V} (a : gp_val b h i V) (hb : h.1 ≤ b') : gp_val b' h i V := by
  obtain ⟨a1, a2⟩ := a
  refine ⟨a1, ?_⟩
  rcases a2 with ⟨z, q⟩ | ⟨z, x, q1, q2, q3, q4, q5, q6⟩
  · exact Or.inl ⟨z, q.other hb⟩
  · refine Or.inr ⟨z, x, q1.other hb, q2, ⟨q3.1, q3.2.1, by omega⟩, q4, q5, fun k hk => ?_⟩
    obtain ⟨j, j1, j2⟩ := q6 k hk
    exact ⟨j, j1, j2.other hb⟩
theorem ga.other {b' : Nat} (a : ga b h S vs n) (hb : h.1 ≤ b') : ga b' h S vs n := by
  obtain ⟨a1, a2, a3⟩ := a
  refine ⟨a1, a2, fun k hk => ?_⟩
  obtain ⟨⟨i, i1, i2⟩, j, j1, j2⟩ := a3 k hk
  exact ⟨⟨i, i1, i2.other hb⟩, j, j1, j2.other hb⟩
theorem cR.c {e : Nat} {x : Option (Option Nat × gk_H)} {c : gp_C} {k s : Nat} (hv : vRc b h (gA S e row) x c k s) (he : e ≤ 8) : cR b h S x (gV_1 (sx e c)) k s := by
  obtain ⟨r, h', q1, q2, q3⟩ := hv
  refine ⟨r, h', S, e, row, gV_1 c, q1, q2.val, q3, gc_fr.refl S, he, ?_⟩
  unfold sx
  split <;> rfl
theorem w_stands (hs : gp_st h) {pt : List Nat} (hi : gp_str b h i pt) (hj : gp_str b h j l) (hl : l.length ≤ 1000) (hp : pt.length ≤ 1000) (okp : okT pt) (okl : okT l) (p : Nat) (hpl : p ≤ l.length) : f_Le_standsAt (some i) (some j) (gI p) (gv_ov h S) = some (gB (decide (p + pt.length ≤ l.length ∧ pt.isPrefixOf (l.drop p) = true)), gv_ov h S) := by
  unfold f_Le_standsAt f_Le_standsAt_b17
  have z0 : ∀ {β : Type} (x y : β), (if gI p < (0 : Int32) then x else y) = if p < 0 then x else y := fun x y => ite_lt x y p 0 (by omega) (by decide)
  rw [z0, if_neg (by omega), st_cv hi, s_len hs hi, gk_ca_some, st_cv hj, s_len hs hj, gk_ca_some, gI_add, ite_le _ _ _ _ (by omega) (by omega), nb0]
  by_cases z : p + pt.length ≤ l.length
  · have loop : ∀ (t q : List Nat) (fu : Nat), pt = q ++ t → t.length < fu → f_Le_standsAt_b21 fu (some i) (some j) (gI p) (gI q.length) (gv_ov h S) = some (gB (t.isPrefixOf (l.drop (p + q.length))), gv_ov h S) := by
      intro t
      induction t with
      | nil =>
        intro q fu hq hfu
        obtain ⟨fu, rfl⟩ : ∃ f, fu = f + 1 := ⟨fu - 1, by omega⟩
        have e : pt.length = q.length := by rw [hq]; simp
        rw [f_Le_standsAt_b21]
        dsimp only
        rw [st_cv hi, s_len hs hi, gk_ca_some, ite_le _ _ _ _ (by omega) (by omega), if_pos (by omega), nb1]
        rfl
      | cons c t ih =>
        intro q fu hq hfu
        obtain ⟨fu, rfl⟩ : ∃ f, fu = f + 1 := ⟨fu - 1, by omega⟩
        rw [List.length_cons] at hfu
        have e : pt.length = q.length + (t.length + 1) := by rw [hq]; simp
        have hg : pt.getD q.length 0 = c := by rw [hq]; exact gp_mid q t c
        obtain ⟨c1, c2⟩ := okp c (by rw [hq]; simp)
        have hlt : p + q.length < l.length := by omega
        have hd : l.drop (p + q.length) = l.getD (p + q.length) 0 :: l.drop (p + q.length + 1) := by
          rw [List.drop_eq_getElem_cons hlt, List.getD_eq_getElem?_getD, List.getElem?_eq_getElem hlt]
          rfl
        have hm : l.getD (p + q.length) 0 ∈ l := by
          rw [List.getD_eq_getElem?_getD, List.getElem?_eq_getElem hlt]
          exact List.getElem_mem hlt
        obtain ⟨d1, d2⟩ := okl _ hm
        have ih' := ih (q ++ [c]) fu (by rw [hq]; simp) (by omega)
        rw [List.length_append, List.length_singleton, ← Nat.add_assoc] at ih'
        rw [f_Le_standsAt_b21]
        dsimp only
        rw [st_cv hi, s_len hs hi, gk_ca_some, ite_le _ _ _ _ (by omega) (by omega), if_neg (by omega), st_cv hi, s_charAt hs hi (by omega), gk_ca_some, hg, st_cv hj, gI_add, s_charAt hs hj hlt, gk_ca_some, gk_let_eq, show gI q.length + (1 : Int32) = gI (q.length + 1) from gI_add _ 1, ih', hd, ite_eq _ _ _ _ (by omega) (by omega), List.isPrefixOf, nb0]
        by_cases e2 : c = l.getD (p + q.length) 0
        · rw [if_pos e2, beq_iff_eq.mpr e2, Bool.true_and]
        · rw [if_neg e2, beq_eq_false_iff_ne.mpr e2, Bool.false_and]
          rfl
    have := loop pt [] gk_F rfl (by unfold gk_F; omega)
    rw [if_pos z]
    have e2 : decide (p + pt.length ≤ l.length ∧ pt.isPrefixOf (l.drop p) = true) = pt.isPrefixOf (l.drop p) := by
      cases hb : pt.isPrefixOf (l.drop p)
      · exact decide_eq_false (fun q => by cases q.2)
      · exact decide_eq_true ⟨z, rfl⟩
    rw [e2]
    exact this
  · rw [if_neg z, decide_eq_false (fun q => z q.1)]
    rfl
def st_err (vs : Nat → gp_V) : Nat → Nat
  | 0 => 0
  | k + 1 => bl (st_err vs k) (sT vs k).1
def sj (vs : Nat → gp_V) : Nat → List Nat
  | 0 => []
  | k + 1 => if (sj vs k).length ≤ 255 then sj vs k ++ (sT vs k).2 else sj vs k
theorem sj_b (a : ga b h S vs n) : ∀ k, k ≤ n → (sj vs k).length ≤ 510 ∧ okT (sj vs k) ∧ st_err vs k ≤ 8
  | 0, _ => ⟨Nat.zero_le _, okT.nil, Nat.zero_le _⟩
  | k + 1, hk => by
    obtain ⟨p1, p2, p3⟩ := sj_b a k (by omega)
    obtain ⟨t1, t2, t3⟩ := a.sT (k := k) (by omega)
    unfold sj st_err
    refine ⟨?_, ?_, bl_le p3 t1⟩
    · split
      · rw [List.length_append]
        omega
      · exact p1
    · split
      · exact p2.app t3
      · exact p2
theorem w_joined (a : ga b h S vs n) (hc : gp_cs b h) : cR b h S (f_Wo_joined (some 20) (gv_ov h (gA S 0 row))) (gV_1 (sx (st_err vs n) (gc_txt (sj vs n)))) 150 5400 := by
  have hn := a.1
  obtain ⟨g1, n1, n2⟩ := lb_new (S := gA S 0 row) (h0 := h) hc.1.1 hc.1 (gp_ext.refl h) 510
  have loop : ∀ (r k fu : Nat) (h1 : gk_H), k + r = n → r < fu → gp_lb h h1 h.1 510 (2 + 11 * k) (336 * k) (sj vs k) → cR b h S (f_Wo_joined_b10 fu (some 20) (some h.1) (gI k) (gv_ov h1 (gA S (st_err vs k) row))) (gV_1 (sx (st_err vs n) (gc_txt (sj vs n)))) 150 5400 := by
    intro r
    induction r with
    | zero =>
      intro k fu h1 hk hf q
      obtain ⟨fu, rfl⟩ : ∃ f, fu = f + 1 := ⟨fu - 1, by omega⟩
      have e : k = n := by omega
      subst e
      obtain ⟨p1, p2, p3⟩ := sj_b a k (by omega)
      obtain ⟨r, h2, e1, e2, e3⟩ := lb_end (S := gA S (st_err vs k) row) q p1 hc p2
      rw [f_Wo_joined_b10]
      simp only [ca_id]
      rw [gc_20, a_many (a.ext q.ext), gk_ca_some, ite_le _ _ _ _ (by omega) (by omega), if_pos (by omega), e1]
      refine ⟨r, h2, S, st_err vs k, row, gV_1 _, rfl, e2.val, e3.le (by omega) (by omega), gc_fr.refl S, p3, ?_⟩
      unfold sx
      split <;> rfl
    | succ r ih =>
      intro k fu h1 hk hf q
      obtain ⟨fu, rfl⟩ : ∃ f, fu = f + 1 := ⟨fu - 1, by omega⟩
      obtain ⟨p1, p2, p3⟩ := sj_b a k (by omega)
      obtain ⟨t1, t2, t3⟩ := a.sT (k := k) (by omega)
      obtain ⟨x, x1, x2, x3, x4⟩ := q.arr
      obtain ⟨r', h2, r1, r2, r3⟩ := a_letters (row := row) ((a.other x1).ext q.ext) (hc.at q.ext x1 x2) k (by omega) p3
      have ih' := ih (k + 1) fu
      rw [sj, st_err] at ih'
      rw [f_Wo_joined_b10]
      unfold f_Wo_joined_b40
      dsimp only
      rw [gc_20, a_many (a.ext q.ext), gk_ca_some, ite_le _ _ _ _ (by omega) (by omega), if_neg (by omega), gc_20, r1, gk_ca_some, lb_cv (q.more r3), lb_len (q.more r3), gk_ca_some, gI_lit 255, ite_lt _ _ _ _ (by decide) (by omega), gk_let_eq, show gI k + (1 : Int32) = gI (k + 1) from gI_add _ 1]
      by_cases z : (sj vs k).length ≤ 255
      · obtain ⟨h3, a1, a2⟩ := lb_appL (S := gA S (bl (st_err vs k) (sT vs k).1) row) q r3 x3 x4 r2 (by omega) (by decide)
        rw [if_pos z] at ih'
        rw [if_neg (show ¬ 255 < (sj vs k).length by omega), lb_cv (q.more r3), a1, gk_ca_some, gk_let_eq]
        exact ih' h3 (by omega) (by omega) (by rw [show 2 + 11 * (k + 1) = 2 + 11 * k + 11 by omega, show 336 * (k + 1) = 336 * k + 336 by omega]; exact a2)
      · rw [if_neg z] at ih'
        rw [if_pos (show 255 < (sj vs k).length by omega)]
        exact ih' h2 (by omega) (by omega) (by rw [show 2 + 11 * (k + 1) = 2 + 11 * k + 11 by omega, show 336 * (k + 1) = 336 * k + 336 by omega]; exact q.more r3)
  unfold f_Wo_joined
  rw [n1]
  exact loop n 0 gk_F g1 (by omega) (by unfold gk_F; omega) n2
theorem sp_rpt_b (ok : okT l) : ∀ k, (sp_rpt l k).length = k * l.length ∧ okT (sp_rpt l k)
  | 0 => ⟨by rw [Nat.zero_mul]; rfl, okT.nil⟩
  | k + 1 => by
    obtain ⟨p1, p2⟩ := sp_rpt_b ok k
    unfold sp_rpt
    refine ⟨?_, p2.app ok⟩
    rw [List.length_append, p1, Nat.succ_mul]
theorem w_repeated (hc : gp_cs b h) (hi : gp_str b h i l) (hl : l.length ≤ 255) (ok : okT l) (m : Int) (hm : -9007199254740992 < m ∧ m < 9007199254740992) : vRc b h S (f_Wo_repeated (some i) (gJ m) (gv_ov h S)) (if m < 0 ∨ 255 < (l.length : Int) * m then gc_e 3 else gc_txt (sp_rpt l (min m 255).toNat)) 34 1400 := by
  unfold f_Wo_repeated f_Wo_repeated_b20
  simp only [ca_id]
  have e3 := (vr_c (vr_err (S := S) hc 3 (by decide) (by decide))).le (k' := 34) (s' := 1400) (by decide) (by decide)
  rw [show (0 : Int64) = gJ 0 from gJl_0, jte_lt _ _ _ _ (by omega) (by omega) (by omega) (by omega)]
  by_cases z : m < 0
  · rw [if_pos z, if_pos (Or.inl z)]
    exact e3
  · have hb1 : (0 : Int) ≤ (l.length : Int) * m := Int.mul_nonneg (by omega) (by omega)
    have hb2 : (l.length : Int) * m ≤ 255 * m := Int.mul_le_mul_of_nonneg_right (by omega) (by omega)
    rw [if_neg z, st_cv hi, s_len hc.1 hi, gk_ca_some, gI_toJ _ (by omega), gJ_mul, gJl_255, jte_le _ _ _ _ (by omega) (by omega) (by omega) (by omega)]
    by_cases z2 : (l.length : Int) * m ≤ 255
    · obtain ⟨g1, n1, n2⟩ := lb_new (S := S) (h0 := h) hc.1.1 hc.1 (gp_ext.refl h) 255
      obtain ⟨M, rfl⟩ : ∃ M : Nat, m = M := ⟨m.toNat, by omega⟩
      have z3 : l.length * M ≤ 255 := by
        have : ((l.length * M : Nat) : Int) ≤ 255 := by rw [Int.natCast_mul]; exact z2
        omega
      have bound : ∀ k, k ≤ M → k * l.length ≤ 255 := fun k hk => by
        have := Nat.mul_le_mul_right l.length hk
        rw [Nat.mul_comm M] at this
        omega
      have loop : ∀ (r k fu : Nat) (h1 : gk_H), k + r = min M 255 → r < fu → gp_lb h h1 h.1 255 (0 + 2) 0 (sp_rpt l k) → vRc b h S (f_Wo_repeated_b36 fu (some i) (gJ (M : Int)) (some h.1) (gI k) (gv_ov h1 S)) (gc_txt (sp_rpt l (min M 255))) 34 1400 := by
        intro r
        induction r with
        | zero =>
          intro k fu h1 hk hf q
          obtain ⟨fu, rfl⟩ : ∃ f, fu = f + 1 := ⟨fu - 1, by omega⟩
          have e : k = min M 255 := by omega
          obtain ⟨s1, s2⟩ := sp_rpt_b ok k
          have hb := bound k (by omega)
          obtain ⟨r, h2, e1, e2, e3⟩ := lb_end (S := S) q (by omega) hc s2
          rw [f_Wo_repeated_b36]
          unfold f_Wo_repeated_b64
          simp only [ca_id]
          have fin : vRc b h S (gk_cv (gv_ov h1 S) (some h.1) 1 (f_SB_toString (some h.1) (gv_ov h1 S)) fun x1 h1 => f_Va_ofText x1 h1) (gc_txt (sp_rpt l (min M 255))) 34 1400 := by
            rw [e1, ← e]
            exact ⟨r, h2, rfl, e2, e3.le (by decide) (by decide)⟩
          rw [gI_toJ _ (by omega), jte_ge _ _ _ _ (by omega) (by omega) (by omega) (by omega), gI_lit 255, ite_le _ _ _ _ (by decide) (by omega)]
          by_cases z5 : (M : Int) ≤ (k : Int)
          · rw [if_pos z5]
            exact fin
          · rw [if_neg z5, if_pos (by omega)]
            exact fin
        | succ r ih =>
          intro k fu h1 hk hf q
          obtain ⟨fu, rfl⟩ : ∃ f, fu = f + 1 := ⟨fu - 1, by omega⟩
          obtain ⟨s1, s2⟩ := sp_rpt_b ok k
          have hb := bound (k + 1) (by omega)
          rw [Nat.succ_mul] at hb
          obtain ⟨h2, a1, a2⟩ := lb_appS (S := S) q hi (by omega) (by decide)
          rw [f_Wo_repeated_b36]
          dsimp only
          rw [gI_toJ _ (by omega), jte_ge _ _ _ _ (by omega) (by omega) (by omega) (by omega), gI_lit 255, ite_le _ _ _ _ (by decide) (by omega), if_neg (show ¬ (M : Int) ≤ (k : Int) by omega), if_neg (show ¬ 255 ≤ k by omega), lb_cv q, a1, gk_ca_some, gk_let_eq, show gI k + (1 : Int32) = gI (k + 1) from gI_add _ 1]
          exact ih (k + 1) fu h2 (by omega) (by omega) a2
      have := loop (min M 255) 0 gk_F g1 (by omega) (by unfold gk_F; omega) n2
      rw [if_pos z2, if_neg (show ¬ ((M : Int) < 0 ∨ 255 < (l.length : Int) * (M : Int)) by omega), n1, show (min (M : Int) 255).toNat = min M 255 by omega]
      exact this
    · rw [if_neg z2, if_pos (Or.inr (by omega))]
      exact e3
theorem w_character (hc : gp_cs b h) (m : Int) (hm : -9007199254740992 < m ∧ m < 9007199254740992) : vRc b h S (f_Wo_character (gJ m) (gv_ov h S)) (if m < 32 ∨ 126 < m then gc_e 3 else gc_txt [m.toNat]) 34 1400 := by
  unfold f_Wo_character f_Wo_character_b16
  simp only [ca_id]
  have e3 := (vr_c (vr_err (S := S) hc 3 (by decide) (by decide))).le (k' := 34) (s' := 1400) (by decide) (by decide)
  rw [gJl_32, gJl_126, jte_lt _ _ _ _ (by omega) (by omega) (by omega) (by omega), jte_le _ _ _ _ (by omega) (by omega) (by omega) (by omega)]
  by_cases z : m < 32
  · rw [if_pos z, if_pos (Or.inl z)]
    exact e3
  · rw [if_neg z]
    by_cases z2 : m ≤ 126
    · obtain ⟨g1, n1, n2⟩ := lb_new (S := S) (h0 := h) hc.1.1 hc.1 (gp_ext.refl h) 255
      obtain ⟨h2, a1, a2⟩ := lb_appC (S := S) n2 m.toNat (by omega) (by decide) (by decide)
      obtain ⟨r, h3, e1, e2, e3⟩ := lb_end (S := S) a2 (by show 1 ≤ 255; decide) hc (okT.nil.app (okT.one (by omega) (by omega)))
      rw [if_pos z2, if_neg (show ¬ (m < 32 ∨ 126 < m) by omega), n1, lb_cv n2, gJ_nI (by omega) (by omega), gI_ch (by omega), a1, gk_ca_some, e1]
      exact ⟨r, h3, rfl, e2, e3.le (by decide) (by decide)⟩
    · rw [if_neg z2, if_pos (Or.inr (by omega))]
      exact e3
theorem w_codeOf (hc : gp_cs b h) (hi : gp_str b h i l) : vRc b h S (f_Wo_codeOf (some i) (gv_ov h S)) (if l = [] then gc_e 3 else gc_n (FP.i2d (gI (l.getD 0 0)))) 1 7 := by
  unfold f_Wo_codeOf f_Wo_codeOf_b23
  simp only [ca_id]
  rw [st_cv hi, s_emp hi, gk_ca_some]
  by_cases z : l = []
  · rw [if_pos z, if_pos z, if_neg (by decide)]
    exact vr_err hc 3 (by decide) (by decide)
  · have hl : 0 < l.length := List.length_pos_iff.mpr z
    rw [if_neg z, if_neg z, if_pos rfl, st_cv hi, show (0 : Int32) = gI 0 from rfl, s_charAt hc.1 hi hl, gk_ca_some]
    exact vr_n hc (fd_i2df _)
theorem w_numeralOf (hc : gp_cs b h) (hi : gp_str b h i l) (hl : l.length ≤ 255) : vRc b h S (f_Wo_numeralOf (some i) (gv_ov h S)) (if nl_is l = true then gc_n (nl_val l) else gc_e 3) 1 7 := by
  unfold f_Wo_numeralOf f_Wo_numeralOf_b21
  simp only [ca_id]
  rw [n_is hc.1 hi (by omega), gk_ca_some]
  by_cases z : nl_is l = true
  · obtain ⟨v1, v2, v3⟩ := n_num (S := S) hc.1 hi (by omega) (nl_is_dig z)
    rw [if_pos z, if_pos z, if_neg (by decide), v1, gk_ca_some]
    exact vr_n hc (nl_val_f z)
  · rw [if_neg z, if_neg z, if_pos rfl]
    exact vr_err hc 3 (by decide) (by decide)
end WO2
