/-! THE PURE PART: the reference's conditions, what meets them -/
section MCN
variable {h : gk_H} {S S0 S1 : gv_S} {x w : gp_C} {l t : List Nat}
theorem mw_cmp2 {it at_ jt bt : Nat} (hs : m_src h S it at_ l) (ht : m_src h S jt bt t) : ∀ (l' p t' q : List Nat) (fu : Nat), l = p ++ l' → t = q ++ t' → p.length = q.length → l'.length < fu → f_M_compareWords_b3 fu (some it) (gI at_) (gI l.length) (some jt) (gI bt) (gI t.length) (gI p.length) (gv_ov h S) = some (gN (sgn (nl_ord l' t')), gv_ov h S) := by
  have hl := hs.2.2.2
  have htl := ht.2.2.2
  have hl8 := hs.2.1
  have ht8 := ht.2.1
  intro l'
  have fin : ∀ (z : Int), (z = (l.length : Int) - t.length) → f_M_compareWords_b66 (gI l.length) (gI t.length) (gv_ov h S) = some (gN (sgn z), gv_ov h S) := by
    intro z hz
    unfold f_M_compareWords_b66 f_M_compareWords_b87 sgn
    rw [ite_le _ _ _ _ (by omega) (by omega), ite_le _ _ _ _ (by omega) (by omega)]
    by_cases y : t.length ≤ l.length
    · rw [if_pos y]
      by_cases y2 : l.length ≤ t.length
      · rw [if_pos y2, if_neg (by omega), if_neg (by omega)]
        rfl
      · rw [if_neg y2, if_neg (by omega), if_pos (by omega)]
        rfl
    · rw [if_neg y, if_pos (by omega), gI_m1B]
  induction l' with
  | nil =>
    intro p t' q fu e1 e2 e3 hf
    obtain ⟨fu, rfl⟩ : ∃ f, fu = f + 1 := ⟨fu - 1, by omega⟩
    have k1 : l.length = p.length := by rw [e1]; simp
    have k2 : t.length = q.length + t'.length := by rw [e2]; simp
    rw [f_M_compareWords_b3]
    dsimp only
    rw [ite_le _ _ _ _ (by omega) (by omega), if_pos (by omega)]
    exact fin _ (by show -(t'.length : Int) = _; omega)
  | cons c l' ih =>
    intro p t' q fu e1 e2 e3 hf
    obtain ⟨fu, rfl⟩ : ∃ f, fu = f + 1 := ⟨fu - 1, by omega⟩
    rw [List.length_cons] at hf
    have k1 : l.length = p.length + (l'.length + 1) := by rw [e1]; simp
    rw [f_M_compareWords_b3]
    dsimp only
    rw [ite_le _ _ _ _ (by omega) (by omega), if_neg (by omega)]
    cases t' with
    | nil =>
      have k2 : t.length = q.length := by rw [e2]; simp
      rw [ite_le _ _ _ _ (by omega) (by omega), if_pos (by omega)]
      exact fin _ (by show ((c :: l').length : Int) = _; rw [List.length_cons]; omega)
    | cons d t' =>
      have k2 : t.length = q.length + (t'.length + 1) := by rw [e2]; simp
      obtain ⟨c8, -, rc⟩ := hs.at p l' c e1
      obtain ⟨d8, -, rd⟩ := ht.at q t' d e2
      rw [← e3] at rd
      have ih' := ih (p ++ [c]) t' (q ++ [d]) fu (by rw [e1]; simp) (by rw [e2]; simp) (by simp [e3]) (by omega)
      rw [List.length_append, List.length_singleton] at ih'
      have g1 := nl_g_lt c8
      have g2 := nl_g_lt d8
      unfold f_M_compareWords_b59
      rw [ite_le _ _ _ _ (by omega) (by omega), if_neg (by omega), gI_add, rc, m_great c c8, gk_ca_some, gI_add, rd, m_great d d8, gk_ca_some, ite_eq _ _ _ _ (by omega) (by omega), gk_let_eq, show gI p.length + (1 : Int32) = gI (p.length + 1) from gI_add _ 1, ite_le _ _ _ _ (by omega) (by omega), nl_ord]
      by_cases y : nl_g c = nl_g d
      · rw [if_pos y, if_pos y]
        exact ih'
      · rw [if_neg y, if_neg y]
        unfold sgn
        by_cases y2 : nl_g d ≤ nl_g c
        · rw [if_pos y2, if_neg (by omega), if_pos (by omega)]
          rfl
        · rw [if_neg y2, if_pos (by omega), gI_m1B]
theorem m_cmpW {it at_ jt bt : Nat} (hs : m_src h S it at_ l) (ht : m_src h S jt bt t) : f_M_compareWords (some 30) (some it) (gI at_) (gI l.length) (some jt) (gI bt) (gI t.length) (gv_ov h S) = some (gN (sgn (nl_ord l t)), gv_ov h S) := mw_cmp2 hs ht l [] t [] gk_F rfl rfl rfl (by have := hs.2.2.2; unfold gk_F; omega)
/-- bytes of words, told -/
def mT (T : gv_S) (o : Nat) (l : List Nat) : Prop := (∀ k, k < l.length → T.1 41 (o + k) = gI (l.getD k 0)) ∧ (∀ c ∈ l, c < 128) ∧ o + l.length ≤ 2304 ∧ l.length ≤ 255
theorem mT.src {o : Nat} (a : mT S o l) (h : gk_H) : m_src h S 41 o l := by
  obtain ⟨a1, a2, a3, a4⟩ := a
  refine ⟨fun k hk β K => ?_, a2, by omega, by omega⟩
  rw [ga_41 (by omega), a1 k hk]
theorem mT.drop {o : Nat} (a : mT S o l) (k : Nat) (hk : k ≤ l.length) : mT S (o + k) (l.drop k) := by
  obtain ⟨a1, a2, a3, a4⟩ := a
  have hd : (l.drop k).length = l.length - k := List.length_drop
  refine ⟨fun j hj => ?_, fun c hc => a2 c (List.mem_of_mem_drop hc), by omega, by omega⟩
  rw [Nat.add_assoc, a1 (k + j) (by omega)]
  congr 1
  rw [List.getD_eq_getElem?_getD, List.getD_eq_getElem?_getD, List.getElem?_drop]
theorem mT.X {o : Nat} {P : Nat → Nat → Prop} (a : mT S o l) (q : mX P S S1) (hp : ∀ x y, P x y → x ≠ 41) : mT S1 o l := ⟨fun k hk => by rw [q.i (fun z => hp _ _ z rfl)]; exact a.1 k hk, a.2⟩
/-- a condition, told -/
def mCo (T : gv_S) (rel : Nat) (w : gp_C) : Prop := T.1 30 17 = gI (rel - 8) ∧ T.1 30 18 = gI w.1 ∧ (w.1 ≠ 2 → T.2.1 30 19 = md w) ∧ (w.1 = 2 → ∃ o, T.1 30 20 = gI o ∧ T.1 30 21 = gI w.2.2.2.length ∧ mT T o w.2.2.2) ∧ gp_okC w ∧ w.1 ≠ 4 ∧ w.1 ≠ 0 ∧ 8 ≤ rel ∧ rel ≤ 13 ∧ (w.1 = 3 → rel = 8)
theorem mCo.mB {rel : Nat} (a : mCo S rel w) (q : mX mB S S1) : mCo S1 rel w := by
  obtain ⟨a1, a2, a3, a4, a5⟩ := a
  have n : ∀ b, b ≠ 11 → ¬ (30 = 30 ∧ b = 11) := fun b hb z => hb z.2
  refine ⟨by rw [q.i (n _ (by decide))]; exact a1, by rw [q.i (n _ (by decide))]; exact a2, fun z => by rw [q.d (n _ (by decide))]; exact a3 z, fun z => ?_, a5⟩
  obtain ⟨o, b1, b2, b3⟩ := a4 z
  exact ⟨o, by rw [q.i (n _ (by decide))]; exact b1, by rw [q.i (n _ (by decide))]; exact b2, b3.X q fun x y z2 => by
    have := z2.1
    omega⟩
/-- what a condition writes -/
def mCf (a b : Nat) : Prop := (a = 30 ∧ 16 ≤ b ∧ b ≤ 21) ∨ a = 41
theorem mCf_st {a b : Nat} (z : mCf a b) : mSt a b := by
  unfold mCf at z
  unfold mSt
  omega
theorem mc.cd {c : Nat} {y : gp_C} (a : mc S c y) (hy : gp_okC y) (q : mX mCf S S1) : mc S1 c y := a.X q hy.2.2.2.2.2.2.2.2.1 fun x z w => by
  unfold mCf at w
  omega
theorem mcd_copy {c : Nat} {y : gp_C} (hy : gp_okC y) (hc : c < 272) : ∀ (r k fu : Nat) (T : gv_S), k + r = y.2.2.2.length → r < fu → mc T c y → (∀ j, j < k → T.1 41 j = gI (y.2.2.2.getD j 0)) → ∃ T', f_M_condition_b71 fu (some 30) (gI c) (gI y.2.2.2.length) (gI k) (gv_ov h T) = (if gI y.2.2.2.length ≤ (0 : Int32) then f_M_condition_b114 (some 30) (gI y.2.2.2.length) (0 : Int32) (gv_ov h T') else f_M_condition_b114 (some 30) (gI y.2.2.2.length) (gI (y.2.2.2.getD 0 0)) (gv_ov h T')) ∧ mX (fun a _ => a = 41) T T' ∧ mT T' 0 y.2.2.2 := by
  intro r
  have hl := hy.2.2.2.2.2.2.2.2.1
  have h128 := ok_t128 hy
  induction r with
  | zero =>
    intro k fu T hk hf hm hj
    obtain ⟨fu, rfl⟩ : ∃ f, fu = f + 1 := ⟨fu - 1, by omega⟩
    have hT : mT T 0 y.2.2.2 := ⟨fun j hj2 => by rw [Nat.zero_add]; exact hj j (by omega), h128, by omega, hl⟩
    rw [f_M_condition_b71]
    dsimp only
    rw [ite_le _ _ _ _ (by omega) (by omega), if_pos (by omega)]
    refine ⟨T, ?_, mX.refl _ _, hT⟩
    rw [show (0 : Int32) = gI 0 from rfl, ite_le _ _ _ _ (by omega) (by decide), ite_le _ _ _ _ (by omega) (by decide)]
    by_cases z : y.2.2.2.length ≤ 0
    · rw [if_pos z, if_pos z]
    · rw [if_neg z, if_neg z, gr_30_15, ga_41 (by decide), hj 0 (by omega)]
  | succ r ih =>
    intro k fu T hk hf hm hj
    obtain ⟨fu, rfl⟩ : ∃ f, fu = f + 1 := ⟨fu - 1, by omega⟩
    have hch : y.2.2.2.getD k 0 < 128 := by
      refine h128 _ ?_
      rw [List.getD_eq_getElem?_getD, List.getElem?_eq_getElem (show k < y.2.2.2.length by omega)]
      exact List.getElem_mem (show k < y.2.2.2.length by omega)
    have x1 : mX (fun a _ => a = 41) T (gv_uI T 41 k (gI (y.2.2.2.getD k 0))) := mX.I _ rfl
    obtain ⟨T', q1, q2, q3⟩ := ih (k + 1) fu _ (by omega) (by omega) (hm.X x1 hl fun x z w => by omega) (fun j hj2 => by
      by_cases q : j = k
      · rw [q]
        exact gu_I2 _ _ _ _
      · rw [gu_I1 _ _ _ _ _ _ (by omega)]
        exact hj j (by omega))
    rw [f_M_condition_b71]
    dsimp only
    rw [ite_le _ _ _ _ (by omega) (by omega), if_neg (by omega), gr_30_15, gr_30_10, gI_lit 256, gI_mul, gI_add, ga_38 (by omega), hm.2.2.2 k (by omega), gt_41 (by omega), gI_bb hch, gk_let_eq, show gI k + (1 : Int32) = gI (k + 1) from gI_add k 1]
    exact ⟨T', q1, x1.trans q2, q3⟩
/-- relation and what is skipped -/
theorem mcd_187 (l : List Nat) (hl : l.length ≤ 255) (h128 : ∀ c ∈ l, c < 128) (one : Nat) (ho : one = if l.length ≤ 0 then 0 else l.getD 0 0) (ho8 : one < 128) (T : gv_S) : f_M_condition_b187 (some 30) (gI l.length) (gI one) (some 30) (gI (sp_rel l - 8)) (gv_ov h T) = f_M_condition_b229 (some 30) (gI l.length) (gI (sp_sl l)) (gv_ov h (gv_uI T 30 17 (gI (sp_rel l - 8)))) := by
  obtain ⟨r1, r2⟩ := sp_rel_b l
  have e61 : (gI one = (61 : Int32)) = (one = 61) := gI_eq one 61 (by omega) (by decide)
  have es : (l ≠ [] ∧ l.getD 0 0 = 61) ↔ one = 61 := by
    rw [ho]
    by_cases z : l.length ≤ 0
    · rw [if_pos z, List.length_eq_zero_iff.mp (show l.length = 0 by omega)]
      simp
    · rw [if_neg z]
      exact ⟨fun y => y.2, fun y => ⟨fun y2 => z (by rw [y2]; decide), y⟩⟩
  unfold f_M_condition_b187 f_M_condition_b206 f_M_condition_b224 sp_sl
  rw [gs_30_17, gg_30_17, gg_30_17, gg_30_17, gu_I2]
  have : sp_rel l = 8 ∨ sp_rel l = 9 ∨ sp_rel l = 10 ∨ sp_rel l = 11 ∨ sp_rel l = 12 ∨ sp_rel l = 13 := by omega
  rcases this with e | e | e | e | e | e
  · rw [e, if_neg (show ¬ gI (8 - 8) = (1 : Int32) by decide), if_pos (show gI (8 - 8) ≤ (3 : Int32) by decide), if_neg (show ¬ (1 : Int32) < gI (8 - 8) by decide), if_neg (show ¬ (8 = 9 ∨ 8 = 12 ∨ 8 = 13) by decide), if_neg (show ¬ (8 = 10 ∨ 8 = 11) by decide)]
    simp only [e61, es]
    by_cases y : one = 61
    · rw [if_pos y, if_pos y]
      rfl
    · rw [if_neg y, if_neg y]
      rfl
  · rw [e, if_pos (show gI (9 - 8) = (1 : Int32) by decide), if_pos (show (9 = 9 ∨ 9 = 12 ∨ 9 = 13) by decide)]
    rfl
  · rw [e, if_neg (show ¬ gI (10 - 8) = (1 : Int32) by decide), if_pos (show gI (10 - 8) ≤ (3 : Int32) by decide), if_pos (show (1 : Int32) < gI (10 - 8) by decide), if_neg (show ¬ (10 = 9 ∨ 10 = 12 ∨ 10 = 13) by decide), if_pos (show (10 = 10 ∨ 10 = 11) by decide)]
    rfl
  · rw [e, if_neg (show ¬ gI (11 - 8) = (1 : Int32) by decide), if_pos (show gI (11 - 8) ≤ (3 : Int32) by decide), if_pos (show (1 : Int32) < gI (11 - 8) by decide), if_neg (show ¬ (11 = 9 ∨ 11 = 12 ∨ 11 = 13) by decide), if_pos (show (11 = 10 ∨ 11 = 11) by decide)]
    rfl
  · rw [e, if_neg (show ¬ gI (12 - 8) = (1 : Int32) by decide), if_neg (show ¬ gI (12 - 8) ≤ (3 : Int32) by decide), if_pos (show (12 = 9 ∨ 12 = 12 ∨ 12 = 13) by decide)]
    rfl
  · rw [e, if_neg (show ¬ gI (13 - 8) = (1 : Int32) by decide), if_neg (show ¬ gI (13 - 8) ≤ (3 : Int32) by decide), if_pos (show (13 = 9 ∨ 13 = 12 ∨ 13 = 13) by decide)]
    rfl
theorem sp_sl_le (l : List Nat) : sp_sl l ≤ l.length := by
  have a0 : sp_c0 l ≠ 32 → 1 ≤ l.length := fun z => by
    unfold sp_c0 at z
    by_cases y : l = []
    · rw [if_pos y] at z
      exact absurd rfl z
    · exact Nat.pos_of_ne_zero fun y2 => y (List.length_eq_zero_iff.mp y2)
  have a1 : sp_c1 l ≠ 32 → 2 ≤ l.length := fun z => by
    unfold sp_c1 at z
    by_cases y : l.length < 2
    · rw [if_pos y] at z
      exact absurd rfl z
    · omega
  unfold sp_sl
  split
  · rename_i q
    refine a1 fun z => ?_
    unfold sp_rel at q
    rw [z] at q
    revert q
    split
    · rw [if_neg (by decide), if_neg (by decide)]
      omega
    · split
      · rw [if_neg (by decide)]
        omega
      · omega
  · split
    · rename_i q
      refine a0 fun z => ?_
      unfold sp_rel at q
      rw [z, if_neg (by decide), if_neg (by decide)] at q
      omega
    · split
      · rename_i q
        exact Nat.pos_of_ne_zero fun y2 => q.1 (List.length_eq_zero_iff.mp y2)
      · omega
theorem m_condition {c : Nat} (hm : mc S c x) (hx : gp_okC x) (hc : c < 256) (hx4 : x.1 ≠ 4) : ∃ T, f_M_condition (some 30) (gI c) (gv_ov h S) = some ((), gv_ov h T) ∧ mX mCf S T ∧ mCo T (sp_rel x.2.2.2) (sp_wan x) := by
  have hk4 := hx.1
  have hl := hx.2.2.2.2.2.2.2.2.1
  have h128 := ok_t128 hx
  have k0 : (gI x.1 = (0 : Int32)) = (x.1 = 0) := gI_eq x.1 0 (by omega) (by decide)
  have k2 : (gI x.1 = (2 : Int32)) = (x.1 = 2) := gI_eq x.1 2 (by omega) (by decide)
  have x1 : mX mCf S (gv_uI S 30 17 (gI 0)) := mX.I _ (Or.inl ⟨rfl, by decide, by decide⟩)
  have m1 := hm.cd hx x1
  -- what is held against, put down
  have main : ∀ ag : Nat, ∀ vv : UInt64, ag = (if x.1 = 0 then 1 else x.1) → vv = (if x.1 = 0 then 0 else md x) → ∃ T, f_M_condition_b48 (some 30) (gI c) (some 30) vv (gv_ov h (gv_uI (gv_uI S 30 17 (gI 0)) 30 18 (gI ag))) = some ((), gv_ov h T) ∧ mX mCf S T ∧ mCo T (sp_rel x.2.2.2) (sp_wan x) := by
    intro ag vv hag hvv
    have x3 : mX mCf S (gv_uD (gv_uI (gv_uI S 30 17 (gI 0)) 30 18 (gI ag)) 30 19 vv) := (x1.trans (mX.I _ (Or.inl ⟨rfl, by decide, by decide⟩))).trans (mX.D _ (Or.inl ⟨rfl, by decide, by decide⟩))
    have f17 : (gv_uD (gv_uI (gv_uI S 30 17 (gI 0)) 30 18 (gI ag)) 30 19 vv).1 30 17 = gI 0 := by
      simp (disch := (first | omega | assumption | exact fd_0_n | exact fd_53_n | exact fd_m53_n)) only [gu_I1, gu_I2, gu_I3, gu_I4, gu_D1, gu_D2, gu_D3, gu_D4]
    have f18 : (gv_uD (gv_uI (gv_uI S 30 17 (gI 0)) 30 18 (gI ag)) 30 19 vv).1 30 18 = gI ag := by
      simp (disch := (first | omega | assumption | exact fd_0_n | exact fd_53_n | exact fd_m53_n)) only [gu_I1, gu_I2, gu_I3, gu_I4, gu_D1, gu_D2, gu_D3, gu_D4]
    have f19 : (gv_uD (gv_uI (gv_uI S 30 17 (gI 0)) 30 18 (gI ag)) 30 19 vv).2.1 30 19 = vv := gu_D2 _ _ _ _
    unfold f_M_condition_b48
    rw [gs_30_19]
    revert x3 f17 f18 f19
    generalize gv_uD (gv_uI (gv_uI S 30 17 (gI 0)) 30 18 (gI ag)) 30 19 vv = T3
    intro x3 f17 f18 f19
    have m3 := hm.cd hx x3
    rw [gr_30_7, ga_35 (by omega), m3.1, gr_30_9, ga_37 (by omega), m3.2.2.1]
    by_cases z2 : x.1 = 2
    · rw [if_pos (show gI x.1 = (2 : Int32) from k2.mpr z2)]
      have ez0 : x.1 ≠ 0 := by omega
      obtain ⟨T4, q1, q2, q3⟩ := mcd_copy (h := h) hx (show c < 272 by omega) x.2.2.2.length 0 gk_F T3 (Nat.zero_add _) (by unfold gk_F; omega) m3 (fun j hj => absurd hj (Nat.not_lt_zero j))
      have q1' : f_M_condition_b71 gk_F (some 30) (gI c) (gI x.2.2.2.length) (0 : Int32) (gv_ov h T3) = _ := q1
      rw [q1']
      have x4 : mX mCf S T4 := x3.trans (q2.le fun a b z => Or.inr z)
      have g18 : T4.1 30 18 = gI 2 := by
        rw [q2.i (by omega), f18, hag, if_neg ez0, z2]
      clear q1 q1'
      -- the end: skip so many
      have b229 : ∃ T, f_M_condition_b229 (some 30) (gI x.2.2.2.length) (gI (sp_sl x.2.2.2)) (gv_ov h (gv_uI T4 30 17 (gI (sp_rel x.2.2.2 - 8)))) = some ((), gv_ov h T) ∧ mX mCf S T ∧ mCo T (sp_rel x.2.2.2) (sp_wan x) := by
        have hsl := sp_sl_le x.2.2.2
        obtain ⟨r1, r2⟩ := sp_rel_b x.2.2.2
        have x7 : mX mCf S (gv_uI (gv_uI (gv_uI T4 30 17 (gI (sp_rel x.2.2.2 - 8))) 30 20 (gI (sp_sl x.2.2.2))) 30 21 (gI (x.2.2.2.length - sp_sl x.2.2.2))) := ((x4.trans (mX.I _ (Or.inl ⟨rfl, by decide, by decide⟩))).trans (mX.I _ (Or.inl ⟨rfl, by decide, by decide⟩))).trans (mX.I _ (Or.inl ⟨rfl, by decide, by decide⟩))
        have xw : mX (fun a _ => a = 30) T4 (gv_uI (gv_uI (gv_uI T4 30 17 (gI (sp_rel x.2.2.2 - 8))) 30 20 (gI (sp_sl x.2.2.2))) 30 21 (gI (x.2.2.2.length - sp_sl x.2.2.2))) := ((mX.I (P := fun a _ => a = 30) _ rfl).trans (mX.I (P := fun a _ => a = 30) _ rfl)).trans (mX.I (P := fun a _ => a = 30) _ rfl)
        have e17 : (gv_uI (gv_uI (gv_uI T4 30 17 (gI (sp_rel x.2.2.2 - 8))) 30 20 (gI (sp_sl x.2.2.2))) 30 21 (gI (x.2.2.2.length - sp_sl x.2.2.2))).1 30 17 = gI (sp_rel x.2.2.2 - 8) := by
          simp (disch := (first | omega | assumption | exact fd_0_n | exact fd_53_n | exact fd_m53_n)) only [gu_I1, gu_I2, gu_I3, gu_I4, gu_D1, gu_D2, gu_D3, gu_D4]
        have e20 : (gv_uI (gv_uI (gv_uI T4 30 17 (gI (sp_rel x.2.2.2 - 8))) 30 20 (gI (sp_sl x.2.2.2))) 30 21 (gI (x.2.2.2.length - sp_sl x.2.2.2))).1 30 20 = gI (sp_sl x.2.2.2) := by
          simp (disch := (first | omega | assumption | exact fd_0_n | exact fd_53_n | exact fd_m53_n)) only [gu_I1, gu_I2, gu_I3, gu_I4, gu_D1, gu_D2, gu_D3, gu_D4]
        have e21 : (gv_uI (gv_uI (gv_uI T4 30 17 (gI (sp_rel x.2.2.2 - 8))) 30 20 (gI (sp_sl x.2.2.2))) 30 21 (gI (x.2.2.2.length - sp_sl x.2.2.2))).1 30 21 = gI (x.2.2.2.length - sp_sl x.2.2.2) := gu_I2 _ _ _ _
        have e18 : (gv_uI (gv_uI (gv_uI T4 30 17 (gI (sp_rel x.2.2.2 - 8))) 30 20 (gI (sp_sl x.2.2.2))) 30 21 (gI (x.2.2.2.length - sp_sl x.2.2.2))).1 30 18 = gI 2 := by
          rw [gu_I1 _ _ _ _ _ _ (by omega), gu_I1 _ _ _ _ _ _ (by omega), gu_I1 _ _ _ _ _ _ (by omega)]
          exact g18
        have t7 := (q3.X xw fun a b z => by omega).drop (sp_sl x.2.2.2) hsl
        rw [Nat.zero_add] at t7
        have hdl : (x.2.2.2.drop (sp_sl x.2.2.2)).length = x.2.2.2.length - sp_sl x.2.2.2 := List.length_drop
        unfold f_M_condition_b229 f_M_condition_b277
        rw [gs_30_20, gI_sub _ _ hsl, gs_30_21]
        revert x7 e17 e20 e21 e18 t7
        generalize gv_uI (gv_uI (gv_uI T4 30 17 (gI (sp_rel x.2.2.2 - 8))) 30 20 (gI (sp_sl x.2.2.2))) 30 21 (gI (x.2.2.2.length - sp_sl x.2.2.2)) = T7
        intro x7 e17 e20 e21 e18 t7
        have hN := m_isNum (t7.src h)
        rw [hdl] at hN
        rw [gr_30_15, gg_30_20, e20, gg_30_21, e21, gc_30, hN, gk_ca_some, ite_B]
        have hokd : gp_okC (gc_t (x.2.2.2.drop (sp_sl x.2.2.2))) := gp_okt (by omega) fun c hc => hx.2.2.2.2.2.2.2.2.2 c (List.mem_of_mem_drop hc)
        have ew : sp_wan x = if nl_is (x.2.2.2.drop (sp_sl x.2.2.2)) = true then gc_n (nl_val (x.2.2.2.drop (sp_sl x.2.2.2))) else gc_t (x.2.2.2.drop (sp_sl x.2.2.2)) := by
          unfold sp_wan
          rw [if_neg ez0, if_pos z2]
        by_cases zn : nl_is (x.2.2.2.drop (sp_sl x.2.2.2)) = true
        · obtain ⟨v1, v2⟩ := nl_val_ok zn
          rw [if_pos zn, if_pos zn, gs_30_18, gg_30_16, show (gv_uI (gv_uD T7 30 16 (nl_val (x.2.2.2.drop (sp_sl x.2.2.2)))) 30 18 (1 : Int32)).2.1 30 16 = nl_val (x.2.2.2.drop (sp_sl x.2.2.2)) from gu_D2 _ _ _ _, gs_30_19]
          rw [ew, if_pos zn]
          refine ⟨_, rfl, ((x7.trans (mX.D _ (Or.inl ⟨rfl, by decide, by decide⟩))).trans (mX.I _ (Or.inl ⟨rfl, by decide, by decide⟩))).trans (mX.D _ (Or.inl ⟨rfl, by decide, by decide⟩)), ?_, ?_, fun _ => ?_, fun z => ?_, ?_⟩
          · simp (disch := (first | omega | assumption | exact fd_0_n | exact fd_53_n | exact fd_m53_n)) only [gu_I1, gu_I2, gu_I3, gu_I4, gu_D1, gu_D2, gu_D3, gu_D4]
            exact e17
          · simp (disch := (first | omega | assumption | exact fd_0_n | exact fd_53_n | exact fd_m53_n)) only [gu_I1, gu_I2, gu_I3, gu_I4, gu_D1, gu_D2, gu_D3, gu_D4]
            rfl
          · rw [gu_D2]
            exact v2.symm
          · exact absurd (show (1 : Nat) = 2 from z) (by decide)
          · refine ⟨gp_okn ?_, ?_, ?_, r1, r2, fun z => ?_⟩
            · have e : sp_num (gc_t (x.2.2.2.drop (sp_sl x.2.2.2))) = (0, nl_val (x.2.2.2.drop (sp_sl x.2.2.2))) := by
                unfold sp_num
                rw [if_neg (show ¬ (gc_t (x.2.2.2.drop (sp_sl x.2.2.2))).1 = 1 by show ¬ (2 : Nat) = 1; decide), if_pos (show (gc_t (x.2.2.2.drop (sp_sl x.2.2.2))).1 = 2 from rfl)]
                exact if_pos zn
              have := (sp_num_f hokd).1
              rw [e] at this
              exact this
            · show ¬ (1 : Nat) = 4
              decide
            · show ¬ (1 : Nat) = 0
              decide
            · exact absurd (show (1 : Nat) = 3 from z) (by decide)
        · rw [if_neg zn, if_neg zn, ew, if_neg zn]
          refine ⟨T7, rfl, x7, e17, e18, fun z => absurd rfl z, fun _ => ⟨sp_sl x.2.2.2, e20, ?_, t7⟩, hokd, ?_, ?_, r1, r2, fun z => ?_⟩
          · show T7.1 30 21 = gI (x.2.2.2.drop (sp_sl x.2.2.2)).length
            rw [hdl]
            exact e21
          · show ¬ (2 : Nat) = 4
            decide
          · show ¬ (2 : Nat) = 0
            decide
          · exact absurd (show (2 : Nat) = 3 from z) (by decide)
      have b130 : ∀ one two : Nat, one = (if x.2.2.2.length ≤ 0 then 0 else x.2.2.2.getD 0 0) → two = (if x.2.2.2.length ≤ 1 then 0 else x.2.2.2.getD 1 0) → one < 128 → two < 128 → ∃ T, f_M_condition_b130 (some 30) (gI x.2.2.2.length) (gI one) (gI two) (gv_ov h T4) = some ((), gv_ov h T) ∧ mX mCf S T ∧ mCo T (sp_rel x.2.2.2) (sp_wan x) := by
        intro one two h1 h2 h1b h2b
        have e187 := mcd_187 (h := h) x.2.2.2 hl h128 one h1 h1b T4
        have c0 : ∀ m, m ≠ 32 → m ≠ 0 → (one = m ↔ sp_c0 x.2.2.2 = m) := fun m hm hm0 => by
          rw [h1]
          unfold sp_c0
          by_cases y : x.2.2.2 = []
          · rw [if_pos y, y]
            simp
            omega
          · rw [if_neg y, if_neg (fun z => y (List.length_eq_zero_iff.mp (by omega)))]
        have c1 : ∀ m, m ≠ 32 → m ≠ 0 → (two = m ↔ sp_c1 x.2.2.2 = m) := fun m hm hm0 => by
          rw [h2]
          unfold sp_c1
          by_cases y : x.2.2.2.length < 2
          · rw [if_pos y, if_pos (by omega)]
            omega
          · rw [if_neg y, if_neg (by omega)]
        have o60 := gI_eq one 60 (by omega) (by decide)
        have o62 := gI_eq one 62 (by omega) (by decide)
        have t62 := gI_eq two 62 (by omega) (by decide)
        have t61 := gI_eq two 61 (by omega) (by decide)
        have o60' : (gI one = (60 : Int32)) = (sp_c0 x.2.2.2 = 60) := o60.trans (propext (c0 60 (by decide) (by decide)))
        have o62' : (gI one = (62 : Int32)) = (sp_c0 x.2.2.2 = 62) := o62.trans (propext (c0 62 (by decide) (by decide)))
        have t62' : (gI two = (62 : Int32)) = (sp_c1 x.2.2.2 = 62) := t62.trans (propext (c1 62 (by decide) (by decide)))
        have t61' : (gI two = (61 : Int32)) = (sp_c1 x.2.2.2 = 61) := t61.trans (propext (c1 61 (by decide) (by decide)))
        have er : f_M_condition_b130 (some 30) (gI x.2.2.2.length) (gI one) (gI two) (gv_ov h T4) = f_M_condition_b187 (some 30) (gI x.2.2.2.length) (gI one) (some 30) (gI (sp_rel x.2.2.2 - 8)) (gv_ov h T4) := by
          unfold f_M_condition_b130 sp_rel
          simp only [o60', o62', t62', t61']
          by_cases y1 : sp_c0 x.2.2.2 = 60
          · simp only [if_pos y1]
            by_cases y2 : sp_c1 x.2.2.2 = 62
            · simp only [if_pos y2]
              rfl
            · simp only [if_neg y2]
              by_cases y3 : sp_c1 x.2.2.2 = 61
              · simp only [if_pos y3]
                rfl
              · simp only [if_neg y3]
                rfl
          · simp only [if_neg y1]
            by_cases y2 : sp_c0 x.2.2.2 = 62
            · simp only [if_pos y2]
              by_cases y3 : sp_c1 x.2.2.2 = 61
              · simp only [if_pos y3]
                rfl
              · simp only [if_neg y3]
                rfl
            · simp only [if_neg y2]
              rfl
        rw [er, e187]
        exact b229
      have ch : ∀ k, k < x.2.2.2.length → x.2.2.2.getD k 0 < 128 := fun k hk => by
        refine h128 _ ?_
        rw [List.getD_eq_getElem?_getD, List.getElem?_eq_getElem hk]
        exact List.getElem_mem hk
      have b114 : ∀ one : Nat, one = (if x.2.2.2.length ≤ 0 then 0 else x.2.2.2.getD 0 0) → one < 128 → ∃ T, f_M_condition_b114 (some 30) (gI x.2.2.2.length) (gI one) (gv_ov h T4) = some ((), gv_ov h T) ∧ mX mCf S T ∧ mCo T (sp_rel x.2.2.2) (sp_wan x) := fun one h1 h1b => by
        unfold f_M_condition_b114
        rw [gI_lit 1, ite_le _ _ _ _ (by omega) (by decide)]
        by_cases y : x.2.2.2.length ≤ 1
        · rw [if_pos y]
          exact b130 one 0 h1 (by rw [if_pos y]) h1b (by decide)
        · have e1 := q3.1 1 (by omega)
          rw [if_neg y, gr_30_15, ga_41 (by decide), show T4.1 41 1 = gI (x.2.2.2.getD 1 0) from e1]
          exact b130 one _ h1 (by rw [if_neg y]) h1b (ch 1 (by omega))
      rw [show (0 : Int32) = gI 0 from rfl, ite_le _ _ _ _ (by omega) (by decide)]
      by_cases y : x.2.2.2.length ≤ 0
      · rw [if_pos y]
        exact b114 0 (by rw [if_pos y]) (by decide)
      · rw [if_neg y]
        exact b114 _ (by rw [if_neg y]) (ch 0 (by omega))
    · rw [if_neg (show ¬ gI x.1 = (2 : Int32) from fun w => z2 (k2.mp w))]
      have hnil := hx.2.2.2.2.2.2.2.1 z2
      have er : sp_rel x.2.2.2 = 8 := by rw [hnil]; rfl
      rw [er]
      by_cases z0 : x.1 = 0
      · have ew : sp_wan x = gc_n 0 := if_pos z0
        rw [ew]
        refine ⟨T3, rfl, x3, f17, ?_, fun _ => ?_, fun z => absurd (show (1 : Nat) = 2 from z) (by decide), gp_okn fd_f0, by show ¬ (1 : Nat) = 4; decide, by show ¬ (1 : Nat) = 0; decide, by decide, by decide, fun _ => rfl⟩
        · rw [f18, hag, if_pos z0]
          rfl
        · rw [f19, hvv, if_pos z0]
          rfl
      · have ew : sp_wan x = x := by
          unfold sp_wan
          rw [if_neg z0, if_neg z2]
        rw [ew]
        refine ⟨T3, rfl, x3, f17, ?_, fun _ => ?_, fun z => absurd z z2, hx, hx4, z0, by decide, by decide, fun _ => rfl⟩
        · rw [f18, hag, if_neg z0]
        · rw [f19, hvv, if_neg z0]
  have b25 : ∀ ag : Nat, ag = (if x.1 = 0 then 1 else x.1) → ∃ T, f_M_condition_b25 (some 30) (gI c) (some 30) (gI ag) (gv_ov h (gv_uI S 30 17 (gI 0))) = some ((), gv_ov h T) ∧ mX mCf S T ∧ mCo T (sp_rel x.2.2.2) (sp_wan x) := by
    intro ag hag
    have m2 := hm.cd hx (x1.trans (mX.I (gI ag) (Or.inl ⟨rfl, by decide, by decide⟩) : mX mCf _ (gv_uI (gv_uI S 30 17 (gI 0)) 30 18 (gI ag))))
    unfold f_M_condition_b25
    rw [gs_30_18, gr_30_7, ga_35 (by omega), m2.1, gr_30_8, ga_36 (by omega), m2.2.1]
    by_cases z : x.1 = 0
    · rw [if_pos (show gI x.1 = (0 : Int32) from k0.mpr z)]
      exact main ag 0 hag (by rw [if_pos z])
    · rw [if_neg (show ¬ gI x.1 = (0 : Int32) from fun w => z (k0.mp w))]
      exact main ag _ hag (by rw [if_neg z])
  unfold f_M_condition
  rw [gs_30_17, show gv_uI S 30 17 (0 : Int32) = gv_uI S 30 17 (gI 0) from rfl, gr_30_7, ga_35 (by omega), m1.1, gr_30_7, ga_35 (by omega), m1.1]
  by_cases z : x.1 = 0
  · rw [if_pos (show gI x.1 = (0 : Int32) from k0.mpr z)]
    exact b25 1 (by rw [if_pos z])
  · rw [if_neg (show ¬ gI x.1 = (0 : Int32) from fun w => z (k0.mp w))]
    exact b25 _ (by rw [if_neg z])
end MCN
