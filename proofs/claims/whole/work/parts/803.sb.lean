/-! THE PURE PART: text builders -/
/-- the StringBuilder s with the array a of cap bytes holds l -/
def gp_sb (h : gk_H) (s a cap : Nat) (l : List Nat) : Prop :=
  s < h.1 ∧ a < h.1 ∧ gv_fx s = false ∧ gv_fx a = false ∧ 16 ≤ s ∧ 16 ≤ a ∧ (h.2.2 s).1 = 11 ∧ (h.2.2 s).2.2 0 = va_rf (some a) ∧ (h.2.2 s).2.2 1 = .int 0 ∧ (h.2.2 s).2.2 3 = .int (gI l.length) ∧
  (h.2.2 a).1 = 3 ∧ (h.2.2 a).2.1 = cap ∧ l.length ≤ cap ∧ (16 ≤ cap ∧ cap ≤ 40000) ∧ (∀ k, k < l.length → (h.2.2 a).2.2 k = .int (gI (l.getD k 0)) ∧ l.getD k 0 < 128) ∧ ∀ k, k < cap → ∃ v : Nat, v < 128 ∧ (h.2.2 a).2.2 k = .int (gI v)
/-- from h to h' the builder alone has changed; its array may have grown -/
def gp_gr (h h' : gk_H) (s a a' cap cap' n : Nat) : Prop := h.1 ≤ h'.1 ∧ 18 * h'.1 + cap ≤ 18 * h.1 + cap' ∧ h'.2.1 ≤ h.2.1 + 2 * (cap' - cap) ∧ cap ≤ cap' ∧ (cap' = cap ∨ cap' ≤ 2 * n) ∧ (a' = a ∨ h.1 ≤ a') ∧ ∀ i, i < h.1 → i ≠ s → i ≠ a → h'.2.2 i = h.2.2 i
theorem gp_upd_at (h : gk_H) (i : Nat) (o : gk_O) : (gk_upd h i o).2.2 i = o := if_pos rfl
theorem gp_upd_ne (h : gk_H) (i j : Nat) (o : gk_O) (hj : j ≠ i) : (gk_upd h i o).2.2 j = h.2.2 j := if_neg hj
theorem gp_new_at (h : gk_H) (n : Nat) (o : gk_O) : (gk_new h n o).2.2 h.1 = o := if_pos rfl
theorem gp_new_ne (h : gk_H) (n j : Nat) (o : gk_O) (hj : j ≠ h.1) : (gk_new h n o).2.2 j = h.2.2 j := if_neg hj
theorem gp_put_at (f : Nat → Value) (k : Nat) (v : Value) : gk_put f k v k = v := if_pos rfl
theorem gp_put_ne (f : Nat → Value) (k j : Nat) (v : Value) (hj : j ≠ k) : gk_put f k v j = f j := if_neg hj
theorem gp_acp {h : gk_H} {S : gv_S} {i j sp dp n : Nat} {β : Type} (K : gk_H → Option β) (fi : gv_fx i = false) (fj : gv_fx j = false) (ti : (h.2.2 i).1 = 3) (tj : (h.2.2 j).1 = 3) (h16 : 16 ≤ j) (hi : sp + n ≤ (h.2.2 i).2.1) (hj : dp + n ≤ (h.2.2 j).2.1) (hl : (h.2.2 i).2.1 < 2147483648) (hm : (h.2.2 j).2.1 < 2147483648)
    (hb : ∀ k, k < n → ∃ v : Nat, v < 128 ∧ (h.2.2 i).2.2 (sp + k) = .int (gI v)) : (gk_acp (gv_ov h S) (some i) (gI sp) (some j) (gI dp) (gI n)).bind K = K (gv_ov (gk_upd h j (3, (h.2.2 j).2.1, gk_cpy (h.2.2 i).2.2 (h.2.2 j).2.2 sp dp n)) S) := by
  have z : ∀ x : Nat, x < 2147483648 → ¬ gI x < 0 := fun x hx => by
    rw [gI_0, gI_lt x 0 hx (by decide)]
    omega
  have hbt : gk_byt (h.2.2 i).2.2 sp n = true := by
    unfold gk_byt
    rw [List.all_eq_true]
    intro k hk
    obtain ⟨v, hv, e⟩ := hb k (List.mem_range.mp hk)
    rw [e]
    have : ∀ c : Fin 128, fits .byte (.int (gI c.val)) = true := by decide +kernel
    exact this ⟨v, hv⟩
  unfold gk_acp
  simp only [gv_no fi, gv_no fj]
  rw [if_pos ⟨ti, tj, ⟨z sp (by omega), z dp (by omega), z n (by omega)⟩, by rw [gI_nat sp (by omega), gI_nat n (by omega)]; exact hi, by rw [gI_nat dp (by omega), gI_nat n (by omega)]; exact hj, h16, hl, by rw [gI_nat sp (by omega), gI_nat n (by omega)]; exact hbt⟩, gp_upd _ fj, gI_nat sp (by omega), gI_nat n (by omega), gI_nat dp (by omega), tj]
  rfl
theorem gv_fitR (c k : Nat) (ty : FieldType) (h : gk_ty c k = .array ty) (r : Option Nat) : gk_fit (gk_ty c k) (va_rf r) = true := by
  rw [h]
  cases r <;> simp [gk_fit, narrow, fits, va_rf]
theorem gv_fitO (c k : Nat) (ty : String) (h : gk_ty c k = .object ty) (r : Option Nat) : gk_fit (gk_ty c k) (va_rf r) = true := by
  rw [h]
  cases r <;> simp [gk_fit, narrow, fits, va_rf]
section GPB
variable {s a cap : Nat} {h : gk_H} {S : gv_S} {l : List Nat}
theorem b_len (q : gp_sb h s a cap l) : f_SB_length (some s) (gv_ov h S) = some (gI l.length, gv_ov h S) := by
  obtain ⟨-, -, q3, -, -, -, q7, -, -, q10, -⟩ := q
  unfold f_SB_length f_AB_length
  rw [gp_cv q3 q7, gp_getI q3 q7 q10]
  rfl
theorem b_lat (hs : gp_st h) (q : gp_sb h s a cap l) : f_AB_isLatin1 (some s) (gv_ov h S) = some (1, gv_ov h S) := by
  obtain ⟨-, -, q3, -, -, -, q7, -, q9, -⟩ := q
  unfold f_AB_isLatin1 f_AB_isLatin1_b18
  rw [gv_cs hs, if_neg (by decide), gp_getI q3 q7 q9]
  rfl
theorem f_max (x y : Nat) (hx : x < 2147483648) (hy : y < 2147483648) (h : gk_H) : f_Ma_max_II (gI x) (gI y) h = some (gI (max x y), h) := by
  unfold f_Ma_max_II f_Ma_max_II_b10
  rw [ite_lt _ _ x y hx hy]
  by_cases e : x < y
  · rw [if_pos e, Nat.max_eq_right (by omega)]
  · rw [if_neg e, Nat.max_eq_left (by omega)]
theorem f_min (x y : Nat) (hx : x < 2147483648) (hy : y < 2147483648) (h : gk_H) : f_Ma_min_II (gI x) (gI y) h = some (gI (min x y), h) := by
  unfold f_Ma_min_II f_Ma_min_II_b10
  rw [ite_lt _ _ y x hy hx]
  by_cases e : y < x
  · rw [if_pos e, Nat.min_eq_right (by omega)]
  · rw [if_neg e, Nat.min_eq_left (by omega)]
theorem b_newcap (q : gp_sb h s a cap l) (n : Nat) (hn : cap < n) (hn2 : n ≤ 40000) : f_AB_newCapacity (some s) (gI n) (gv_ov h S) = some (gI (max n (2 * cap + 2)), gv_ov h S) := by
  obtain ⟨-, -, q3, q4, -, -, q7, q8, q9, -, q11, q12, -, q14, -⟩ := q
  unfold f_AB_newCapacity f_Ys_newLength
  rw [gp_getR q3 q7 q8, gp_len q4 (by rw [q11]; decide), gp_getI q3 q7 q9, q12]
  simp only [gk_let_eq]
  rw [gI_shl0, gI_sub n cap (by omega), gp_getI q3 q7 q9, gI_shl0, gI_lit 2, gI_add, f_max _ _ (by omega) (by omega), gk_ca_some, gI_add]
  have e : cap + max (n - cap) (cap + 2) = max n (2 * cap + 2) := by omega
  rw [e]
  have hM : max n (2 * cap + 2) ≤ 80002 := by omega
  rw [gI_lit 0, ite_le _ _ _ 0 (by omega) (by decide), if_neg (by omega), gI_lit 2147483639, ite_lt _ _ _ _ (by decide) (by omega), if_neg (by omega), gk_ca_some, gI_lit 2147483647, ite_eq _ _ _ _ (by omega) (by decide), if_neg (by omega), gp_getI q3 q7 q9, gI_shr0]
theorem b_ens (hs : gp_st h) (q : gp_sb h s a cap l) (n : Nat) (hn2 : n ≤ 20000) (hc : cap ≤ 19000) : ∃ h' a' cap', f_AB_ensureCapacityInternal (some s) (gI n) (gv_ov h S) = some ((), gv_ov h' S) ∧ gp_sb h' s a' cap' l ∧ n ≤ cap' ∧ gp_gr h h' s a a' cap cap' n := by
  have q0 := q
  obtain ⟨q1, q2, q3, q4, q5, q6, q7, q8, q9, q10, q11, q12, q13, q14, q15, q16⟩ := q
  unfold f_AB_ensureCapacityInternal f_AB_ensureCapacityInternal_b38
  rw [gp_getR q3 q7 q8, gp_len q4 (by rw [q11]; decide), gp_getI q3 q7 q9, q12]
  simp only [gk_let_eq]
  rw [gI_shr0]
  by_cases e : n ≤ cap
  · refine ⟨h, a, cap, ?_, q0, e, Nat.le_refl _, by omega, by omega, Nat.le_refl _, Or.inl rfl, Or.inl rfl, fun _ _ _ _ => rfl⟩
    rw [if_pos]
    rw [Int32.le_iff_toInt_le, Int32.toInt_sub, gI_toInt n (by omega), gI_toInt cap (by omega)]
    rw [Int.bmod_eq_of_le (by omega) (by omega)]
    show (n : Int) - cap ≤ 0
    omega
  · have hs1 : s ≠ h.1 := by omega
    have ha1 : a ≠ h.1 := by omega
    have hsa : a ≠ s := fun z => by rw [z, q7] at q11; exact absurd q11 (by decide)
    have h44 := hs.1
    have fh : gv_fx h.1 = false := gv_fx_hi h44
    rw [gI_sub n cap (by omega), gI_0, ite_le _ _ _ 0 (by omega) (by decide), if_neg (by omega), gp_getR q3 q7 q8, gp_cv q3 q7, b_newcap q0 n (by omega) (by omega), gk_ca_some, gp_getI q3 q7 q9, gI_shl0]
    have hM : max n (2 * cap + 2) ≤ 40000 := by omega
    have hM1 : cap < max n (2 * cap + 2) := by omega
    unfold f_Ya_copyOf
    rw [gp_len q4 (by rw [q11]; decide), q12, ite_eq _ _ _ _ (by omega) (by omega), if_neg (by omega), gp_na 3 _ h44 (by omega)]
    have e1 : (gk_mkA h 3 (max n (2 * cap + 2))).2.2 a = h.2.2 a := gp_new_ne _ _ _ _ ha1
    have e2 : (gk_mkA h 3 (max n (2 * cap + 2))).2.2 s = h.2.2 s := gp_new_ne _ _ _ _ hs1
    have e3 : (gk_mkA h 3 (max n (2 * cap + 2))).2.2 h.1 = (3, max n (2 * cap + 2), fun _ => .int 0) := gp_new_at _ _ _
    rw [gp_len q4 (by rw [e1, q11]; decide), e1, q12, f_min _ _ (by omega) (by omega), gk_ca_some, Nat.min_eq_left (by omega), gI_0]
    rw [gp_acp _ q4 fh (by rw [e1]; exact q11) (by rw [e3]) (by omega) (by rw [e1]; omega) (by rw [e3]; show 0 + cap ≤ max n (2 * cap + 2); omega) (by rw [e1]; omega) (by rw [e3]; show max n (2 * cap + 2) < _; omega) (by rw [e1]; intro k hk; rw [Nat.zero_add]; exact q16 k (by omega)), gk_ca_some]
    rw [gp_set q3 q5 (by rw [gp_upd_ne _ _ _ _ hs1, e2]; exact q7) (gv_fitR 1 0 .byte rfl _)]
    refine ⟨_, h.1, max n (2 * cap + 2), rfl, ?_, by omega, ?_⟩
    · rw [gp_upd_ne _ _ _ _ hs1, e1, e2, e3]
      refine ⟨by show s < h.1 + 1; omega, by show h.1 < h.1 + 1; omega, q3, fh, q5, by omega, ?_⟩
      rw [gp_upd_at, gp_upd_ne _ _ _ _ (Ne.symm hs1), gp_upd_at]
      refine ⟨rfl, rfl, ?_, ?_, rfl, rfl, by omega, ⟨by omega, hM⟩, fun k hk => ?_, fun k hk => ?_⟩
      · exact q9
      · exact q10
      · show gk_cpy _ _ 0 0 cap k = _ ∧ _
        unfold gk_cpy
        rw [if_pos ⟨Nat.zero_le _, by omega⟩, Nat.sub_zero, Nat.zero_add]
        exact q15 k hk
      · show ∃ v : Nat, v < 128 ∧ gk_cpy _ _ 0 0 cap k = _
        unfold gk_cpy
        by_cases hk2 : k < cap
        · rw [if_pos ⟨Nat.zero_le _, by omega⟩, Nat.sub_zero, Nat.zero_add]
          exact q16 k hk2
        · rw [if_neg (by omega)]
          exact ⟨0, by decide, rfl⟩
    · refine ⟨by show h.1 ≤ h.1 + 1; omega, by show 18 * (h.1 + 1) + cap ≤ _; omega, by show h.2.1 + max n (2 * cap + 2) ≤ _; omega, by omega, Or.inr (by omega), Or.inr (Nat.le_refl _), fun i hi his hia => ?_⟩
      rw [gp_upd_ne _ _ _ _ his, gp_upd_ne _ _ _ _ (by omega)]
      exact gp_new_ne _ _ _ _ (by omega)
/-- a builder's count and one byte are written -/
theorem b_put (q : gp_sb h s a cap l) (c : Nat) (hc : c < 128) (hl : l.length < cap) (K : gk_H → Option (Option Nat × gk_H)) : ((gk_get (gv_ov h S) (some s) 1 0).bind gk_asR).bind (fun x4 => ((gk_get (gv_ov h S) (some s) 1 3).bind gk_asI).bind fun x5 => (gk_set (gv_ov h S) (some s) 1 3 (.int (x5 + (1 : Int32)))).bind fun h4 => (gk_ast h4 x4 3 x5 (.int (Int8.toInt32 (Int32.toInt8 (gI c))))).bind K) = K (gv_ov (gk_upd (gk_upd h s (11, (h.2.2 s).2.1, gk_put (h.2.2 s).2.2 3 (.int (gI (l.length + 1))))) a (3, cap, gk_put (h.2.2 a).2.2 l.length (.int (gI c)))) S) := by
  obtain ⟨q1, q2, q3, q4, q5, q6, q7, q8, q9, q10, q11, q12, q13, q14, q15, q16⟩ := q
  have hsa : a ≠ s := fun z => by rw [z, q7] at q11; exact absurd q11 (by decide)
  rw [gp_getR q3 q7 q8, gp_getI q3 q7 q10, gI_1, gI_add, gp_set q3 q5 q7 (gv_fitI 1 3 rfl _)]
  have e1 : (gk_upd h s (10 + 1, (h.2.2 s).2.1, gk_put (h.2.2 s).2.2 3 (.int (gI (l.length + 1))))).2.2 a = h.2.2 a := gp_upd_ne _ _ _ _ hsa
  rw [gp_ast q4 q6 (by rw [e1]; exact q11) (by rw [e1]; omega) (by rw [e1]; omega) (by unfold gk_may; rfl), e1, q12]
  have e2 : narrow (gk_tyt 3) (.int (Int8.toInt32 (Int32.toInt8 (gI c)))) = .int (gI c) := by
    show narrow .byte (.int (gI_b (gI c))) = _
    rw [gI_bb hc, gI_nbyte hc]
  rw [e2]
theorem gp_sb_put (q : gp_sb h s a cap l) (c : Nat) (hc : c < 128) (hl : l.length < cap) : gp_sb (gk_upd (gk_upd h s (11, (h.2.2 s).2.1, gk_put (h.2.2 s).2.2 3 (.int (gI (l.length + 1))))) a (3, cap, gk_put (h.2.2 a).2.2 l.length (.int (gI c)))) s a cap (l ++ [c]) := by
  obtain ⟨q1, q2, q3, q4, q5, q6, q7, q8, q9, q10, q11, q12, q13, q14, q15, q16⟩ := q
  have hsa : a ≠ s := fun z => by rw [z, q7] at q11; exact absurd q11 (by decide)
  unfold gp_sb
  rw [gp_upd_at, gp_upd_ne _ _ _ _ (Ne.symm hsa), gp_upd_at]
  have hll : (l ++ [c]).length = l.length + 1 := by simp
  rw [hll]
  refine ⟨q1, q2, q3, q4, q5, q6, rfl, ?_, ?_, rfl, rfl, rfl, by omega, q14, fun k hk => ?_, fun k hk => ?_⟩
  · exact q8
  · exact q9
  · show gk_put _ l.length _ k = _ ∧ _
    by_cases e : k = l.length
    · subst e
      rw [gp_put_at]
      simp [List.getD_eq_getElem?_getD]
      exact hc
    · rw [gp_put_ne _ _ _ _ e]
      have : (l ++ [c]).getD k 0 = l.getD k 0 := by
        simp only [List.getD_eq_getElem?_getD]
        rw [List.getElem?_append_left (by omega)]
      rw [this]
      exact q15 k (by omega)
  · show ∃ v : Nat, v < 128 ∧ gk_put _ l.length _ k = _
    by_cases e : k = l.length
    · subst e
      exact ⟨c, hc, gp_put_at _ _ _⟩
    · rw [gp_put_ne _ _ _ _ e]
      exact q16 k hk
theorem b_appC (hs : gp_st h) (q : gp_sb h s a cap l) (c : Nat) (hc : c < 128) (hl : l.length ≤ 9000) (hcap : cap ≤ 19000) : ∃ h' a' cap', f_SB_append_C (some s) (gI c) (gv_ov h S) = some (some s, gv_ov h' S) ∧ gp_sb h' s a' cap' (l ++ [c]) ∧ gp_gr h h' s a a' cap cap' (l.length + 1) := by
  have q0 := q
  obtain ⟨q1, q2, q3, q4, q5, q6, q7, q8, q9, q10, q11, q12, q13, q14, q15, q16⟩ := q
  obtain ⟨h1, a1, cap1, e1, r1, r2, r3⟩ := b_ens (S := S) hs q0 (l.length + 1) (by omega) hcap
  have hs1 : gp_st h1 := by
    obtain ⟨w1, w2, w3, w4, w5, w6⟩ := hs
    obtain ⟨g1, g2, g3, g4, g5, g6, g7⟩ := r3
    have e := g7 0 (by omega) (by omega) (by omega)
    exact ⟨by omega, by rw [e]; exact w2, by rw [e]; exact w3, by rw [e]; exact w4, by rw [e]; exact w5, by rw [e]; exact w6⟩
  have t7 := r1.2.2.2.2.2.2.1
  have t3 := r1.2.2.1
  have z1 : ¬ ((255 : Int32) < gI c) := by
    rw [gI_lit 255, gI_lt 255 c (by decide) (by omega)]
    omega
  have hce : f_S1_canEncode_C (gI c) (gv_ov h1 S) = some (1, gv_ov h1 S) := by
    unfold f_S1_canEncode_C f_S1_canEncode_C_b12
    rw [if_neg z1]
    rfl
  refine ⟨_, a1, cap1, ?_, gp_sb_put r1 c hc (by omega), ?_⟩
  · unfold f_SB_append_C f_AB_append_C
    rw [gp_cv q3 q7, gp_getI q3 q7 q10, gp_cv q3 q7, gI_1, gI_add, e1, gk_ca_some, gp_cv t3 t7, b_lat hs1 r1, gk_ca_some, if_neg (by decide), hce, gk_ca_some, if_neg (by decide), ← gI_1, b_put r1 c hc (by omega), gk_ca_some]
  · obtain ⟨g1, g2, g3, g4, g5, g6, g7⟩ := r3
    refine ⟨g1, g2, g3, g4, g5, g6, fun i hi his hia => ?_⟩
    have hia1 : i ≠ a1 := by
      rcases g6 with g6 | g6 <;> omega
    rw [gp_upd_ne _ _ _ _ hia1, gp_upd_ne _ _ _ _ his]
    exact g7 i hi his hia
theorem gp_st.gr {h h' : gk_H} {s a a' cap cap' n : Nat} (hs : gp_st h) (g : gp_gr h h' s a a' cap cap' n) (h1 : 16 ≤ s) (h2 : 16 ≤ a) : gp_st h' := by
  obtain ⟨w1, w2, w3, w4, w5, w6⟩ := hs
  obtain ⟨g1, g2, g3, g4, g5, g6, g7⟩ := g
  have e := g7 0 (by omega) (by omega) (by omega)
  exact ⟨by omega, by rw [e]; exact w2, by rw [e]; exact w3, by rw [e]; exact w4, by rw [e]; exact w5, by rw [e]; exact w6⟩
theorem gp_getD_app (l t : List Nat) (k : Nat) : (l ++ t).getD k 0 = if k < l.length then l.getD k 0 else t.getD (k - l.length) 0 := by
  simp only [List.getD_eq_getElem?_getD]
  by_cases e : k < l.length
  · rw [if_pos e, List.getElem?_append_left e]
  · rw [if_neg e, List.getElem?_append_right (by omega)]
/-- a text is put behind -/
theorem b_appS {b i : Nat} {t : List Nat} (hs : gp_st h) (q : gp_sb h s a cap l) (ht : gp_str b h i t) (his : i ≠ s) (hia : ∀ x : Nat, (h.2.2 i).2.2 0 = va_rf (some x) → x ≠ a) (hl : l.length + t.length ≤ 9000) (hcap : cap ≤ 19000) : ∃ h' a' cap', f_SB_append_String (some s) (some i) (gv_ov h S) = some (some s, gv_ov h' S) ∧ gp_sb h' s a' cap' (l ++ t) ∧ gp_gr h h' s a a' cap cap' (l.length + t.length) := by
  have q0 := q
  have ht0 := ht
  obtain ⟨q1, q2, q3, q4, q5, q6, q7, q8, q9, q10, q11, q12, q13, q14, q15, q16⟩ := q
  obtain ⟨t1, t2, t3, t4, x, t5, t6, t7, t8, t9, t10, t11⟩ := ht
  have hxa := hia x t5
  have hxs : x ≠ s := fun z => by rw [z, q7] at t8; exact absurd t8 (by decide)
  obtain ⟨h1, a1, cap1, e1, r1, r2, r3⟩ := b_ens (S := S) hs q0 (l.length + t.length) (by omega) hcap
  have hs1 : gp_st h1 := hs.gr r3 q5 q6
  have hi1 : h1.2.2 i = h.2.2 i := r3.2.2.2.2.2.2 i t1 his (fun z => by rw [z, q11] at t3; exact absurd t3 (by decide))
  have hx1 : h1.2.2 x = h.2.2 x := r3.2.2.2.2.2.2 x t6 hxs hxa
  have ht1 : gp_str b h1 i t := by
    refine ⟨by have := r3.1; omega, t2, by rw [hi1]; exact t3, by rw [hi1]; exact t4, x, by rw [hi1]; exact t5, by have := r3.1; omega, t7, ?_⟩
    unfold gp_byt
    rw [hx1]
    exact ⟨t8, t9, t10, t11⟩
  have r1' := r1
  obtain ⟨p1, p2, p3, p4, p5, p6, p7, p8, p9, p10, p11, p12, p13, p14, p15, p16⟩ := r1
  have hax : x ≠ a1 := by
    rcases r3.2.2.2.2.2.1 with z | z <;> omega
  have hsa : a1 ≠ s := fun z => by rw [z, p7] at p11; exact absurd p11 (by decide)
  unfold f_SB_append_String f_AB_append_String
  rw [gp_cv q3 q7, if_pos (by simp), gp_cv t2.1 t3, s_len hs ht0, gk_ca_some, gp_getI q3 q7 q10, gp_cv q3 q7, gI_add, e1, gk_ca_some, gp_getI p3 p7 p10, gp_cv p3 p7]
  unfold f_AB_putStringAt f_AB_inflateIfNeededFor f_AB_inflateIfNeededFor_b21 f_St_getBytes
  have hif : (0 : Int32) = 0 := rfl
  rw [gp_cv p3 p7, gv_cs hs1, if_neg (by decide), gp_getI p3 p7 p9, gp_cv t2.1 (by rw [hi1]; exact t3), s_coder hs1 ht1, gk_ca_some, if_pos rfl, gk_ca_some, gp_getR p3 p7 p8, gp_getI p3 p7 p9, gp_cv t2.1 (by rw [hi1]; exact t3), gp_cv t2.1 (by rw [hi1]; exact t3), s_coder hs1 ht1, gk_ca_some, if_pos rfl]
  have z5 : (h1.2.2 i).2.2 0 = va_rf (some x) := by rw [hi1]; exact t5
  have z3 : (h1.2.2 i).1 = 10 + 0 := by rw [hi1]; exact t3
  rw [gp_getR t2.1 z3 z5, gp_getR t2.1 z3 z5, gp_len t7.1 (by rw [hx1, t8]; decide), gI_shl0, hx1, t9, gI_0]
  rw [gp_acp _ t7.1 p4 (by rw [hx1]; exact t8) p11 p6 (by rw [hx1, t9]; omega) (by rw [p12]; omega) (by rw [hx1, t9]; omega) (by rw [p12]; omega) (by rw [hx1]; intro k hk; rw [Nat.zero_add]; exact ⟨_, (t11 k hk).2, (t11 k hk).1⟩), gk_ca_some, gk_ca_some, p12, hx1]
  have y1 : (gk_upd h1 a1 (3, cap1, gk_cpy (h.2.2 x).2.2 (h1.2.2 a1).2.2 0 l.length t.length)).2.2 s = h1.2.2 s := gp_upd_ne _ _ _ _ (Ne.symm hsa)
  rw [gp_getI p3 (by rw [y1]; exact p7) (by rw [y1]; exact p10), gI_add, gp_set p3 p5 (by rw [y1]; exact p7) (gv_fitI 1 3 rfl _), y1, gk_ca_some]
  refine ⟨_, a1, cap1, rfl, ?_, ?_⟩
  · unfold gp_sb
    rw [gp_upd_at, gp_upd_ne _ _ _ _ hsa, gp_upd_at]
    have hll : (l ++ t).length = l.length + t.length := by simp
    rw [hll]
    refine ⟨p1, p2, p3, p4, p5, p6, rfl, p8, p9, rfl, rfl, rfl, by omega, p14, fun k hk => ?_, fun k hk => ?_⟩
    · show gk_cpy _ _ 0 l.length t.length k = _ ∧ _
      unfold gk_cpy
      rw [gp_getD_app]
      by_cases e : k < l.length
      · rw [if_neg (by omega), if_pos e]
        exact p15 k e
      · rw [if_pos (by omega), if_neg e, Nat.zero_add]
        exact t11 _ (by omega)
    · show ∃ v : Nat, v < 128 ∧ gk_cpy _ _ 0 l.length t.length k = _
      unfold gk_cpy
      by_cases e : l.length ≤ k ∧ k < l.length + t.length
      · rw [if_pos e, Nat.zero_add]
        exact ⟨_, (t11 _ (by omega)).2, (t11 _ (by omega)).1⟩
      · rw [if_neg e]
        exact p16 k hk
  · obtain ⟨g1, g2, g3, g4, g5, g6, g7⟩ := r3
    refine ⟨g1, g2, g3, g4, g5, g6, fun j hj hjs hja => ?_⟩
    have hia1 : j ≠ a1 := by
      rcases g6 with g6 | g6 <;> omega
    rw [gp_upd_ne _ _ _ _ hjs, gp_upd_ne _ _ _ _ hia1]
    exact g7 j hj hjs hja
/-- what a builder holds becomes a text -/
theorem b_str (hs : gp_st h) (q : gp_sb h s a cap l) (b : Nat) (hb : b < h.1) : ∃ h', f_SB_toString (some s) (gv_ov h S) = some (some h.1, gv_ov h' S) ∧ gp_str b h' h.1 l ∧ gp_ext 2 (4 + l.length) h h' := by
  have h44 := hs.1
  obtain ⟨q1, q2, q3, q4, q5, q6, q7, q8, q9, q10, q11, q12, q13, q14, q15, q16⟩ := q
  have fh : gv_fx h.1 = false := gv_fx_hi h44
  have hs1 : s ≠ h.1 := by omega
  have ha1 : a ≠ h.1 := by omega
  unfold f_SB_toString
  rw [gp_nw 4 h44]
  have e0 : (gk_mkO h 0 4).2.2 h.1 = (10, 2, fun k => defaultValue (gk_ty 0 k)) := gp_new_at _ _ _
  have e1 : ∀ j, j ≠ h.1 → (gk_mkO h 0 4).2.2 j = h.2.2 j := fun j hj => gp_new_ne _ _ _ _ hj
  have q' : gp_sb (gk_mkO h 0 4) s a cap l := by
    unfold gp_sb
    rw [e1 s hs1, e1 a ha1]
    exact ⟨by show s < h.1 + 1; omega, by show a < h.1 + 1; omega, q3, q4, q5, q6, q7, q8, q9, q10, q11, q12, q13, q14, q15, q16⟩
  have hs' : gp_st (gk_mkO h 0 4) := by
    unfold gp_st
    rw [e1 0 (by omega)]
    exact ⟨by show 44 ≤ h.1 + 1; omega, hs.2⟩
  unfold f_St_init_StringBuilder f_St_init_AbstractStringBuilderVoid f_St_init_AbstractStringBuilderVoid_b97 f_AB_getValue
  have w7 : ((gk_mkO h 0 4).2.2 s).1 = 10 + 1 := by rw [e1 s hs1]; exact q7
  have w8 : ((gk_mkO h 0 4).2.2 s).2.2 0 = va_rf (some a) := by rw [e1 s hs1]; exact q8
  rw [gp_cv fh (by rw [e0]), gp_cv fh (by rw [e0])]
  simp only [Option.bind_some]
  rw [gp_cv q3 w7, gp_getR q3 w7 w8, gk_ca_some, gp_cv q3 w7, b_len q', gk_ca_some, gp_cv q3 w7, b_lat hs' q', gk_ca_some, if_neg (by decide)]
  have hfit : gk_fit (gk_ty 0 1) (.int 0) = true := by decide +kernel
  rw [gp_set fh (by omega) (by rw [e0]) hfit, e0]
  have e2 : ∀ j, j ≠ h.1 → (gk_upd (gk_mkO h 0 4) h.1 (10 + 0, 2, gk_put (fun k => defaultValue (gk_ty 0 k)) 1 (.int 0))).2.2 j = h.2.2 j := fun j hj => by
    rw [gp_upd_ne _ _ _ _ hj, e1 j hj]
  have e3 : (gk_upd (gk_mkO h 0 4) h.1 (10 + 0, 2, gk_put (fun k => defaultValue (gk_ty 0 k)) 1 (.int 0))).2.2 h.1 = (10, 2, gk_put (fun k => defaultValue (gk_ty 0 k)) 1 (.int 0)) := gp_upd_at _ _ _
  have e4 : (gk_upd (gk_mkO h 0 4) h.1 (10 + 0, 2, gk_put (fun k => defaultValue (gk_ty 0 k)) 1 (.int 0))).1 = h.1 + 1 := rfl
  generalize hG : gk_upd (gk_mkO h 0 4) h.1 (10 + 0, 2, gk_put (fun k => defaultValue (gk_ty 0 k)) 1 (.int 0)) = G at e2 e3 e4 ⊢
  have e5 : G.2.1 = h.2.1 + 4 := by rw [← hG]; rfl
  have g44 : 44 ≤ G.1 := by omega
  have fg : gv_fx G.1 = false := gv_fx_hi g44
  have hhG : h.1 ≠ G.1 := by omega
  have fin : ∀ f : Nat → Value, (∀ k, k < l.length → f k = .int (gI (l.getD k 0)) ∧ l.getD k 0 < 128) → ∀ G1 : gk_H, G1.1 = G.1 + 1 → G1.2.1 = G.2.1 + l.length → (∀ j, j ≠ G.1 → G1.2.2 j = G.2.2 j) → G1.2.2 G.1 = (3, l.length, f) →
      ∃ h', (gk_ca (gk_ca ((gk_set (gv_ov G1 S) (some h.1) 0 0 (va_rf (some G.1))).bind fun h6 => some ((), h6)) fun (_ : Unit) h1 => some ((), h1)) fun (_ : Unit) h2 => some (some h.1, h2)) = some (some h.1, gv_ov h' S) ∧ gp_str b h' h.1 l ∧ gp_ext 2 (4 + l.length) h h' := by
    intro f hf G1 z1 z2 z3 z4
    have m4 : G1.2.2 h.1 = (10, 2, gk_put (fun k => defaultValue (gk_ty 0 k)) 1 (.int 0)) := by rw [z3 _ hhG, e3]
    rw [gp_set fh (by omega) (by rw [m4]) (gv_fitR 0 0 .byte rfl _), m4, gk_ca_some, gk_ca_some]
    refine ⟨_, rfl, ⟨by show h.1 < G1.1; omega, gp_im_hi h44 (by omega), ?_, ?_, G.1, ?_, by show G.1 < G1.1; omega, gp_im_hi g44 (by omega), ?_⟩, ?_⟩
    · rw [gp_upd_at]
    · rw [gp_upd_at]
      rfl
    · rw [gp_upd_at]
      rfl
    · unfold gp_byt
      rw [gp_upd_ne _ _ _ _ (Ne.symm hhG), z4]
      exact ⟨rfl, rfl, by omega, hf⟩
    · refine ⟨by show h.1 ≤ G1.1; omega, by show G1.1 ≤ _; omega, by show G1.2.1 ≤ _; omega, fun j hj => ?_⟩
      rw [gp_upd_ne _ _ _ _ (by omega), z3 j (by omega), e2 j (by omega)]
  unfold f_Ya_copyOfRange f_Ya_copyOfRange_b10 f_Ya_copyOfRangeByte f_Ya_checkLength
  rw [if_pos rfl, gp_len q4 (by rw [e2 a ha1, q11]; decide), e2 a ha1, q12, ite_eq _ _ _ _ (by omega) (by omega)]
  have haG : a ≠ G.1 := by omega
  by_cases hlc : l.length = cap
  · rw [if_pos hlc]
    have hc : ∀ {β : Type} (K : Option Nat → gk_H → Option β), gk_cln (gv_ov G S) (some a) K = K (some G.1) (gv_ov (gk_new G cap (3, cap, (h.2.2 a).2.2)) S) := fun K => by
      have hbt : gk_byt (h.2.2 a).2.2 0 (h.2.2 a).2.1 = true := by
        unfold gk_byt
        rw [List.all_eq_true]
        intro k hk
        obtain ⟨v, hv, e⟩ := q16 k (by have := List.mem_range.mp hk; omega)
        rw [Nat.zero_add, e]
        have : ∀ c : Fin 128, fits .byte (.int (gI c.val)) = true := by decide +kernel
        exact this ⟨v, hv⟩
      unfold gk_cln
      simp only [gv_no q4, e2 a ha1]
      rw [if_pos ⟨q11, (show gk_c ≤ a by assumption), by omega, hbt⟩, q12, gp_new _ _ g44]
      rfl
    rw [hc, gk_ca_some]
    exact fin (h.2.2 a).2.2 q15 (gk_new G cap (3, cap, (h.2.2 a).2.2)) rfl (by show G.2.1 + cap = _; omega) (fun j hj => gp_new_ne _ _ _ _ hj) (by rw [gp_new_at, hlc])
  · rw [if_neg hlc, gI_0, ite_le _ _ _ _ (by decide) (by omega), if_pos (Nat.zero_le _), gk_ca_some, gI_sub _ _ (Nat.zero_le _), gk_let_eq, Nat.sub_zero, gp_na 3 _ g44 (by omega)]
    have m1 : ∀ j, j ≠ G.1 → (gk_mkA G 3 l.length).2.2 j = G.2.2 j := fun j hj => gp_new_ne _ _ _ _ hj
    have m2 : (gk_mkA G 3 l.length).2.2 G.1 = (3, l.length, fun _ => .int 0) := gp_new_at _ _ _
    have m3 : (gk_mkA G 3 l.length).2.2 a = h.2.2 a := by rw [m1 a haG, e2 a ha1]
    rw [gp_len q4 (by rw [m3, q11]; decide), m3, q12, gI_sub _ _ (Nat.zero_le _), Nat.sub_zero, f_min _ _ (by omega) (by omega), gk_ca_some, Nat.min_eq_right (by omega)]
    rw [gp_acp _ q4 fg (by rw [m3]; exact q11) (by rw [m2]) (by omega) (by rw [m3, q12]; omega) (by rw [m2]; show 0 + l.length ≤ l.length; omega) (by rw [m3, q12]; omega) (by rw [m2]; show l.length < _; omega) (by rw [m3]; intro k hk; rw [Nat.zero_add]; exact q16 k (by omega)), gk_ca_some, gk_ca_some, m2, m3]
    refine fin (gk_cpy (h.2.2 a).2.2 (fun _ => .int 0) 0 0 l.length) (fun k hk => ?_) (gk_upd (gk_mkA G 3 l.length) G.1 (3, l.length, gk_cpy (h.2.2 a).2.2 (fun _ => .int 0) 0 0 l.length)) rfl rfl (fun j hj => by rw [gp_upd_ne _ _ _ _ hj, m1 j hj]) (gp_upd_at _ _ _)
    unfold gk_cpy
    rw [if_pos ⟨Nat.zero_le _, by omega⟩, Nat.sub_zero, Nat.zero_add]
    exact q15 k hk
/-- a new builder -/
theorem b_new (hs : gp_st h) : ∃ h', (∀ {β : Type} (K : Option Nat → gk_H → Option β), (gk_nw (gv_ov h S) 1 4 fun x1 h1 => gk_cv h1 x1 1 (f_SB_init x1 h1) fun _ h2 => K x1 h2) = K (some h.1) (gv_ov h' S)) ∧ gp_sb h' h.1 (h.1 + 1) 16 [] ∧ gp_ext 2 20 h h' := by
  have h44 := hs.1
  have fh : gv_fx h.1 = false := gv_fx_hi h44
  have fh1 : gv_fx (h.1 + 1) = false := gv_fx_hi (by omega)
  have e0 : (gk_mkO h 1 4).2.2 h.1 = (11, 4, fun k => defaultValue (gk_ty 1 k)) := gp_new_at _ _ _
  have e1 : ∀ j, j ≠ h.1 → (gk_mkO h 1 4).2.2 j = h.2.2 j := fun j hj => gp_new_ne _ _ _ _ hj
  have e2 : ∀ j, j ≠ h.1 + 1 → (gk_mkA (gk_mkO h 1 4) 3 16).2.2 j = (gk_mkO h 1 4).2.2 j := fun j hj => gp_new_ne _ _ _ _ hj
  have e3 : (gk_mkA (gk_mkO h 1 4) 3 16).2.2 (h.1 + 1) = (3, 16, fun _ => .int 0) := gp_new_at _ _ _
  have hs' : gp_st (gk_mkO h 1 4) := by
    unfold gp_st
    rw [e1 0 (by omega)]
    exact ⟨by show 44 ≤ h.1 + 1; omega, hs.2⟩
  have hfit : gk_fit (gk_ty 1 1) (.int 0) = true := by decide +kernel
  have e4 : (gk_mkA (gk_mkO h 1 4) 3 16).2.2 h.1 = (11, 4, fun k => defaultValue (gk_ty 1 k)) := by
    rw [e2 _ (by omega), e0]
  refine ⟨gk_upd (gk_upd (gk_mkA (gk_mkO h 1 4) 3 16) h.1 (11, 4, gk_put (fun k => defaultValue (gk_ty 1 k)) 0 (va_rf (some (h.1 + 1))))) h.1 (11, 4, gk_put (gk_put (fun k => defaultValue (gk_ty 1 k)) 0 (va_rf (some (h.1 + 1)))) 1 (.int 0)), fun K => ?_, ?_, ?_⟩
  · rw [gp_nw 4 h44, gp_cv fh (by rw [e0])]
    unfold f_SB_init f_AB_init
    rw [gp_cv fh (by rw [e0])]
    simp only [Option.bind_some]
    rw [gv_cs hs', if_neg (by decide), gI_lit 16, gp_na 3 _ hs'.1 (by decide)]
    have e5 : (gk_mkO h 1 4).1 = h.1 + 1 := rfl
    rw [e5, gp_set fh (by omega) (by rw [e4]) (gv_fitR 1 0 .byte rfl _), e4, gp_set fh (by omega) (by rw [gp_upd_at]) hfit, gp_upd_at, gk_ca_some, gk_ca_some]
  · unfold gp_sb
    rw [gp_upd_at, gp_upd_ne _ _ _ _ (by omega), gp_upd_ne _ _ _ _ (by omega), e3]
    refine ⟨by show h.1 < h.1 + 1 + 1; omega, by show h.1 + 1 < h.1 + 1 + 1; omega, fh, fh1, by omega, by omega, rfl, rfl, rfl, rfl, rfl, rfl, by decide, by decide, fun k hk => absurd hk (Nat.not_lt_zero _), fun k hk => ⟨0, by decide, rfl⟩⟩
  · refine ⟨by show h.1 ≤ h.1 + 1 + 1; omega, by show h.1 + 1 + 1 ≤ _; omega, by show h.2.1 + 4 + 16 ≤ _; omega, fun j hj => ?_⟩
    rw [gp_upd_ne _ _ _ _ (by omega), gp_upd_ne _ _ _ _ (by omega), e2 j (by omega), e1 j (by omega)]
end GPB
