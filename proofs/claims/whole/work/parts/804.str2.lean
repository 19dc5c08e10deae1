/-! THE PURE PART: parts of texts, looking in them, builders of a method's own -/
theorem gp_getD_sub (l : List Nat) (i n k : Nat) (hk : k < n) : ((l.drop i).take n).getD k 0 = l.getD (i + k) 0 := by
  simp only [List.getD_eq_getElem?_getD]
  rw [List.getElem?_take_of_lt hk, List.getElem?_drop]
theorem gp_len_sub (l : List Nat) (i n : Nat) (h : i + n ≤ l.length) : ((l.drop i).take n).length = n := by
  rw [List.length_take, List.length_drop]
  omega
section GPU
variable {b i : Nat} {h : gk_H} {S : gv_S} {l : List Nat}
/-- a new String of a part of an array of bytes -/
theorem s_newString (hs : gp_st h) (hc : gp_str b h 12 []) {a : Nat} (ha : a < h.1) (hfa : gv_fx a = false) (hB : gp_byt h a l) (from_ n : Nat) (hn : from_ + n ≤ l.length) (hz : n = 0 ∨ from_ ≠ 0 ∨ n ≠ l.length) (hb : b < h.1) : ∃ r h', f_S1_newString (some a) (gI from_) (gI n) (gv_ov h S) = some (some r, gv_ov h' S) ∧ gp_str b h' r ((l.drop from_).take n) ∧ gp_ext 2 (4 + n) h h' := by
  obtain ⟨g1, g2, g3, g4⟩ := hB
  unfold f_S1_newString
  rw [gI_0, ite_eq _ _ _ _ (by omega) (by decide)]
  by_cases e : n = 0
  · subst e
    rw [if_pos rfl, List.take_zero]
    exact ⟨12, h, rfl, hc, (gp_ext.refl h).le (by decide) (by omega)⟩
  · rw [if_neg e]
    have h44 := hs.1
    have fh : gv_fx h.1 = false := gv_fx_hi h44
    have ha1 : a ≠ h.1 := by omega
    rw [gp_nw 4 h44]
    have e0 : (gk_mkO h 0 4).2.2 h.1 = (10, 2, fun k => defaultValue (gk_ty 0 k)) := gp_new_at _ _ _
    have e1 : ∀ j, j ≠ h.1 → (gk_mkO h 0 4).2.2 j = h.2.2 j := fun j hj => gp_new_ne _ _ _ _ hj
    have e4 : (gk_mkO h 0 4).1 = h.1 + 1 := rfl
    have e5 : (gk_mkO h 0 4).2.1 = h.2.1 + 4 := rfl
    generalize hG : gk_mkO h 0 4 = G at e0 e1 e4 e5 ⊢
    have g44 : 44 ≤ G.1 := by omega
    have fg : gv_fx G.1 = false := gv_fx_hi g44
    have haG : a ≠ G.1 := by omega
    have hhG : h.1 ≠ G.1 := by omega
    have step : f_Ya_copyOfRange (some a) (gI from_) (gI from_ + gI n) (gv_ov G S) = f_Ya_copyOfRange_b10 (some a) (gI from_) (gI from_ + gI n) (gv_ov G S) := by
      unfold f_Ya_copyOfRange
      rw [gI_0, ite_eq _ _ _ _ (by omega) (by decide)]
      by_cases z : from_ = 0
      · rw [if_pos z, gp_len hfa (by rw [e1 a ha1, g1]; decide), e1 a ha1, g2, gI_add, ite_eq _ _ _ _ (by omega) (by omega), if_neg (by omega)]
      · rw [if_neg z]
    rw [step]
    unfold f_Ya_copyOfRange_b10 f_Ya_copyOfRangeByte f_Ya_checkLength
    rw [gI_add, ite_le _ _ _ _ (by omega) (by omega), if_pos (by omega), gk_ca_some, gI_sub _ _ (by omega), gk_let_eq]
    have en : from_ + n - from_ = n := by omega
    rw [en, gp_na 3 n g44 (by omega)]
    have m1 : ∀ j, j ≠ G.1 → (gk_mkA G 3 n).2.2 j = G.2.2 j := fun j hj => gp_new_ne _ _ _ _ hj
    have m2 : (gk_mkA G 3 n).2.2 G.1 = (3, n, fun _ => .int 0) := gp_new_at _ _ _
    have m3 : (gk_mkA G 3 n).2.2 a = h.2.2 a := by rw [m1 a haG, e1 a ha1]
    rw [gp_len hfa (by rw [m3, g1]; decide), m3, g2, gI_sub _ _ (by omega), f_min _ _ (by omega) (by omega), gk_ca_some, Nat.min_eq_right (by omega), gI_0]
    rw [gp_acp _ hfa fg (by rw [m3]; exact g1) (by rw [m2]) (by omega) (by rw [m3, g2]; omega) (by rw [m2]; show 0 + n ≤ n; omega) (by rw [m3, g2]; omega) (by rw [m2]; show n < _; omega) (by rw [m3]; intro k hk; exact ⟨_, (g4 (from_ + k) (by omega)).2, (g4 (from_ + k) (by omega)).1⟩), gk_ca_some, gk_ca_some, m2, m3]
    generalize hG2 : gk_upd (gk_mkA G 3 n) G.1 (3, n, gk_cpy (h.2.2 a).2.2 (fun _ => .int 0) from_ 0 n) = G2
    have u1 : ∀ j, j ≠ G.1 → G2.2.2 j = G.2.2 j := fun j hj => by rw [← hG2, gp_upd_ne _ _ _ _ hj, m1 j hj]
    have u2 : G2.2.2 G.1 = (3, n, gk_cpy (h.2.2 a).2.2 (fun _ => .int 0) from_ 0 n) := by rw [← hG2, gp_upd_at]
    have u3 : G2.1 = G.1 + 1 := by rw [← hG2]; rfl
    have u4 : G2.2.1 = G.2.1 + n := by rw [← hG2]; rfl
    have u5 : G2.2.2 h.1 = (10, 2, fun k => defaultValue (gk_ty 0 k)) := by rw [u1 _ hhG, e0]
    rw [gp_cv fh (by rw [u5])]
    unfold f_St_init_aBB
    simp only [Option.bind_some]
    have hfit : gk_fit (gk_ty 0 1) (.int 0) = true := by decide +kernel
    rw [gp_set fh (by omega) (by rw [u5]) (gv_fitR 0 0 .byte rfl _), u5]
    rw [← gI_0, gp_set fh (by omega) (by rw [gp_upd_at]) hfit, gp_upd_at, gk_ca_some]
    refine ⟨h.1, _, rfl, ⟨by show h.1 < G2.1; omega, gp_im_hi h44 (by omega), ?_, ?_, G.1, ?_, by show G.1 < G2.1; omega, gp_im_hi g44 (by omega), ?_⟩, ?_⟩
    · rw [gp_upd_at]
    · rw [gp_upd_at]
      rfl
    · rw [gp_upd_at]
      rfl
    · unfold gp_byt
      rw [gp_upd_ne _ _ _ _ (Ne.symm hhG), gp_upd_ne _ _ _ _ (Ne.symm hhG), u2, gp_len_sub _ _ _ hn]
      refine ⟨rfl, rfl, by omega, fun k hk => ?_⟩
      show gk_cpy (h.2.2 a).2.2 (fun _ => .int 0) from_ 0 n k = _ ∧ _
      unfold gk_cpy
      rw [if_pos ⟨Nat.zero_le _, by omega⟩, Nat.sub_zero, gp_getD_sub _ _ _ _ hk]
      exact g4 _ (by omega)
    · refine ⟨by show h.1 ≤ G2.1; omega, by show G2.1 ≤ _; omega, by show G2.2.1 ≤ _; omega, fun j hj => ?_⟩
      rw [gp_upd_ne _ _ _ _ (by omega), gp_upd_ne _ _ _ _ (by omega), u1 j (by omega), e1 j (by omega)]
theorem s_sub (hs : gp_st h) (hc : gp_str b h 12 []) (a : gp_str b h i l) (x y : Nat) (hxy : x ≤ y) (hy : y ≤ l.length) (hb : b < h.1) : ∃ r h', f_St_substring_II (some i) (gI x) (gI y) (gv_ov h S) = some (some r, gv_ov h' S) ∧ gp_str b h' r ((l.drop x).take (y - x)) ∧ gp_ext 2 (4 + (y - x)) h h' := by
  have a0 := a
  obtain ⟨a1, a2, a3, a4, q, a5, a6, a7, a8⟩ := a
  have g3 := a8.2.2.1
  have chk : f_St_checkBoundsBeginEnd (gI x) (gI y) (gI l.length) (gv_ov h S) = some ((), gv_ov h S) := by
    unfold f_St_checkBoundsBeginEnd f_Pr_checkFromToIndex
    obtain ⟨r, hr⟩ := hs.2.2.1
    rw [gv_gs, hr, show gk_asR (va_rf r) = some r from by cases r <;> rfl]
    simp only [Option.bind_some]
    rw [gI_0, ite_lt _ _ _ _ (by omega) (by decide), if_neg (by omega), ite_lt _ _ _ _ (by omega) (by omega), if_neg (by omega), ite_le _ _ _ _ (by omega) (by omega), if_pos hy]
    rfl
  have main : (x ≠ 0 ∨ y ≠ l.length) → ∃ r h', f_St_substring_II_b22 (some i) (gI x) (gI y) (gv_ov h S) = some (some r, gv_ov h' S) ∧ gp_str b h' r ((l.drop x).take (y - x)) ∧ gp_ext 2 (4 + (y - x)) h h' := by
    intro hz
    unfold f_St_substring_II_b22
    rw [gI_sub _ _ hxy, gk_let_eq, gp_cv a2.1 a3, s_lat hs a0, gk_ca_some, if_neg (by decide), gp_getR a2.1 a3 a5]
    obtain ⟨r, h', e1, e2, e3⟩ := s_newString (S := S) hs hc a6 a7.1 a8 x (y - x) (by omega) (by omega) hb
    rw [e1, gk_ca_some]
    exact ⟨r, h', rfl, e2, e3⟩
  unfold f_St_substring_II
  rw [gp_cv a2.1 a3, s_len hs a0, gk_ca_some, chk, gk_ca_some, gI_0, ite_eq _ _ _ _ (by omega) (by decide)]
  by_cases z : x = 0
  · rw [if_pos z, ite_eq _ _ _ _ (by omega) (by omega)]
    by_cases z2 : y = l.length
    · rw [if_pos z2]
      refine ⟨i, h, rfl, ?_, (gp_ext.refl h).le (by decide) (by omega)⟩
      rw [z, z2, List.drop_zero, Nat.sub_zero, List.take_length]
      exact a0
    · rw [if_neg z2]
      exact main (Or.inr z2)
  · rw [if_neg z]
    exact main (Or.inl z)
theorem s_sub1 (hs : gp_st h) (hc : gp_str b h 12 []) (a : gp_str b h i l) (x : Nat) (hx : x ≤ l.length) (hb : b < h.1) : ∃ r h', f_St_substring_I (some i) (gI x) (gv_ov h S) = some (some r, gv_ov h' S) ∧ gp_str b h' r (l.drop x) ∧ gp_ext 2 (4 + (l.length - x)) h h' := by
  obtain ⟨r, h', e1, e2, e3⟩ := s_sub (S := S) hs hc a x l.length hx (Nat.le_refl _) hb
  refine ⟨r, h', ?_, ?_, e3⟩
  · unfold f_St_substring_I
    rw [gp_cv a.2.1.1 a.2.2.1, s_len hs a, gk_ca_some, gp_cv a.2.1.1 a.2.2.1, e1, gk_ca_some]
  · rw [show (l.drop x).take (l.length - x) = l.drop x from List.take_of_length_le (by rw [List.length_drop]; omega)] at e2
    exact e2
theorem s_ixloop (hfa : gv_fx i = false) (hB : gp_byt h i l) (c : Nat) (hc : c < 128) : ∀ (fu k : Nat), k ≤ l.length → l.length - k < fu → ∃ r, f_S1_indexOfChar_b7 fu (some i) (gI l.length) (gI c) (gI k) (gv_ov h S) = some (r, gv_ov h S) ∧ (r < 0 ↔ c ∉ l.drop k) := by
  obtain ⟨g1, g2, g3, g4⟩ := hB
  intro fu
  induction fu with
  | zero => intro k _ hk; omega
  | succ fu ih =>
    intro k hk hf
    rw [f_S1_indexOfChar_b7]
    dsimp only
    rw [ite_le _ _ _ _ (by omega) (by omega)]
    by_cases e : l.length ≤ k
    · rw [if_pos e, List.drop_of_length_le e]
      exact ⟨_, rfl, ⟨fun _ => List.not_mem_nil, fun _ => by decide⟩⟩
    · rw [if_neg e, gp_aldI hfa g1 (by omega) (by omega) (g4 k (by omega)).1, ite_eq _ _ _ _ (by have := (g4 k (by omega)).2; omega) (by omega)]
      have hd : l.drop k = l.getD k 0 :: l.drop (k + 1) := by
        rw [List.drop_eq_getElem_cons (by omega)]
        simp [List.getD_eq_getElem?_getD, List.getElem?_eq_getElem (show k < l.length by omega)]
      by_cases e2 : l.getD k 0 = c
      · rw [if_pos e2]
        refine ⟨_, rfl, ⟨fun z => ?_, fun z => ?_⟩⟩
        · rw [gI_0, gI_lt _ _ (by omega) (by decide)] at z
          omega
        · rw [hd, e2] at z
          exact absurd (List.mem_cons_self) z
      · rw [if_neg e2, gk_let_eq, gI_1, gI_add]
        obtain ⟨r, w1, w2⟩ := ih (k + 1) (by omega) (by omega)
        refine ⟨r, w1, ?_⟩
        rw [w2, hd, List.mem_cons]
        constructor
        · intro z1 z2
          rcases z2 with z2 | z2
          · exact e2 z2.symm
          · exact z1 z2
        · intro z1 z2
          exact z1 (Or.inr z2)
theorem s_ix (hs : gp_st h) (a : gp_str b h i l) (c : Nat) (hc : c < 128) : ∃ r, f_St_indexOf_I (some i) (gI c) (gv_ov h S) = some (r, gv_ov h S) ∧ (r < 0 ↔ c ∉ l) := by
  have a0 := a
  obtain ⟨a1, a2, a3, a4, q, a5, a6, a7, a8⟩ := a
  have g3 := a8.2.2.1
  unfold f_St_indexOf_I f_St_indexOf_II f_S1_indexOf f_S1_canEncode_I f_S1_canEncode_I_b15 f_S1_canEncode_I_b16 f_S1_indexOfChar
  have hcb : Int8.toInt32 (Int32.toInt8 (gI c)) = gI c := gI_bb hc
  rw [gp_cv a2.1 a3, gp_cv a2.1 a3, s_lat hs a0, gk_ca_some, if_neg (by decide), gp_getR a2.1 a3 a5, gp_cv a2.1 a3, s_len hs a0, gk_ca_some, gI_0, ite_lt _ _ _ _ (by omega) (by decide), if_neg (by omega), gI_lit 255, ite_lt _ _ _ _ (by decide) (by omega), if_neg (by omega)]
  have h1 : (if narrow .boolean (.int (1 : Int32)) = .int (1 : Int32) then some ((1 : Int32), gv_ov h S) else none) = some (1, gv_ov h S) := rfl
  rw [h1, gk_ca_some]
  have h2 : ¬ ((1 : Int32) = gI 0) := by decide
  rw [if_neg h2, f_max _ _ (by decide) (by decide), gk_ca_some, gp_len a7.1 (by rw [a8.1]; decide), a8.2.1, f_min _ _ (by omega) (by omega), gk_ca_some, Nat.max_self, Nat.min_self, ite_lt _ _ _ _ (by decide) (by omega)]
  by_cases e : 0 < l.length
  · rw [if_pos e]
    rw [gk_let_eq, hcb]
    obtain ⟨r, w1, w2⟩ := s_ixloop (S := S) a7.1 a8 c hc gk_F 0 (Nat.zero_le _) (by unfold gk_F; omega)
    rw [w1, gk_ca_some, gk_ca_some, gk_ca_some]
    exact ⟨r, rfl, w2⟩
  · rw [if_neg e, gk_ca_some, gk_ca_some]
    refine ⟨_, rfl, ⟨fun _ z => ?_, fun _ => by decide⟩⟩
    rw [List.length_eq_zero_iff.mp (show l.length = 0 by omega)] at z
    exact absurd z List.not_mem_nil
theorem gp_eqD {l t : List Nat} (h : l.length = t.length) (hd : ∀ k, k < l.length → l.getD k 0 = t.getD k 0) : l = t := by
  apply List.ext_getElem h
  intro k h1 h2
  have := hd k h1
  simpa [List.getD_eq_getElem?_getD, List.getElem?_eq_getElem h1, List.getElem?_eq_getElem h2] using this
theorem s_eqloop {j : Nat} {t : List Nat} (hfi : gv_fx i = false) (hfj : gv_fx j = false) (hA : gp_byt h i l) (hB : gp_byt h j t) (hlt : l.length = t.length) : ∀ (fu k : Nat), k ≤ l.length → l.length - k < fu → (∀ m, m < k → l.getD m 0 = t.getD m 0) → f_S1_equals_b9 fu (some i) (some j) (gI k) (gv_ov h S) = some (if l = t then 1 else 0, gv_ov h S) := by
  obtain ⟨g1, g2, g3, g4⟩ := hA
  obtain ⟨k1, k2, k3, k4⟩ := hB
  intro fu
  induction fu with
  | zero => intro k _ hk; omega
  | succ fu ih =>
    intro k hk hf hm
    rw [f_S1_equals_b9]
    dsimp only
    rw [gp_len hfi (by rw [g1]; decide), g2, ite_le _ _ _ _ (by omega) (by omega)]
    by_cases e : l.length ≤ k
    · rw [if_pos e, nb1, if_pos (gp_eqD hlt fun m hm2 => hm m (by omega))]
    · rw [if_neg e, gp_aldI hfi g1 (by omega) (by omega) (g4 k (by omega)).1, gp_aldI hfj k1 (by omega) (by omega) (k4 k (by omega)).1, ite_eq _ _ _ _ (by have := (g4 k (by omega)).2; omega) (by have := (k4 k (by omega)).2; omega)]
      by_cases e2 : l.getD k 0 = t.getD k 0
      · rw [if_pos e2, gk_let_eq, gI_1, gI_add]
        refine ih (k + 1) (by omega) (by omega) fun m hm2 => ?_
        by_cases e3 : m = k
        · rw [e3]
          exact e2
        · exact hm m (by omega)
      · rw [if_neg e2, nb0, if_neg (fun z => e2 (by rw [z]))]
theorem s_eq {j : Nat} {t : List Nat} (hs : gp_st h) (a : gp_str b h i l) (c : gp_str b h j t) : f_St_equals (some i) (some j) (gv_ov h S) = some (if l = t then 1 else 0, gv_ov h S) := by
  obtain ⟨a1, a2, a3, a4, q, a5, a6, a7, a8⟩ := a
  obtain ⟨c1, c2, c3, c4, w, c5, c6, c7, c8⟩ := c
  have hiso : gk_iso (gv_ov h S) (some j) 0 = some 1 := by
    unfold gk_iso
    simp only [gv_no c2.1, c3, Nat.add_zero, if_true]
  have hcst : gk_cst (gv_ov h S) (some j) 0 = some () := by
    unfold gk_cst
    simp only [gv_no c2.1, c3, Nat.add_zero, if_true]
  have g3 := a8.2.2.1
  have k3 := c8.2.2.1
  unfold f_St_equals f_St_equals_b36 f_St_equals_b54 f_St_equals_b55 f_S1_equals
  simp only [Option.bind_some, hiso, hcst]
  rw [if_neg (by decide), gv_cs hs, if_neg (by decide), gp_getI a2.1 a3 a4, gp_getI c2.1 c3 c4, if_pos rfl, gp_getR a2.1 a3 a5, gp_getR c2.1 c3 c5, gp_len a7.1 (by rw [a8.1]; decide), gp_len c7.1 (by rw [c8.1]; decide), a8.2.1, c8.2.1, ite_eq _ _ _ _ (by omega) (by omega)]
  by_cases e : l.length = t.length
  · have hl : f_S1_equals_b9 gk_F (some q) (some w) 0 (gv_ov h S) = some (if l = t then 1 else 0, gv_ov h S) := s_eqloop a7.1 c7.1 a8 c8 e gk_F 0 (Nat.zero_le _) (by unfold gk_F; omega) (fun m hm => absurd hm (Nat.not_lt_zero _))
    rw [if_pos e, hl, gk_ca_some]
    by_cases e2 : l = t
    · rw [if_pos e2, if_neg (by decide), nb1]
    · rw [if_neg e2, if_pos rfl, nb0]
  · rw [if_neg e, nb0, gk_ca_some, if_pos rfl, nb0, if_neg (fun z => e (by rw [z]))]
end GPU
