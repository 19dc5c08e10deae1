/-! GENERATED (gen/lawb.py): the branches of the law's loop -/
def gl_X (h : gk_H) (Ls : Nat) (xs : Nat → Int32) : Prop := (h.2.2 14).1 = 1 ∧ (h.2.2 14).2.1 = Ls ∧ ∀ k, k < Ls → (h.2.2 14).2.2 k = .int (xs k)
theorem gl_X.sm {h h' : gk_H} {Ls : Nat} {xs : Nat → Int32} (hl : 14 < h.1) (g : gp_sm h h') (a : gl_X h Ls xs) : gl_X h' Ls xs := by
  unfold gl_X
  rw [(g 14 (by decide) hl).2]
  exact a
/-- after n calls -/
def gl_I (cap0 : Nat) (h0 : gk_H) (n : Nat) (h : gk_H) (S : gv_S) : Prop := ∃ b cap L u, cs_st b cap h S L u ∧ mS S L ∧ mU S u ∧ gp_gw (n * 303) (n * 8013) cap0 cap h0 h
section GLB
variable {cap0 Ls n fu : Nat} {xs : Nat → Int32} {h0 h : gk_H} {S : gv_S} {β : Type}
theorem gl_rd {m : Nat} (hL : Ls < 2147483648) (X : gl_X h Ls xs) (hm : m < Ls) (K : Int32 → Option β) : ((gk_ald (gv_ov h S) (some 14) 1 (gI m)).bind gk_asI).bind K = K (xs m) := by
  obtain ⟨a1, a2, a3⟩ := X
  have e : gk_ald (gv_ov h S) (some 14) 1 (gI m) = some (.int (xs m)) := by
    have gx : (gv_ov h S).2.2 14 = h.2.2 14 := gv_no rfl
    unfold gk_ald
    dsimp only
    rw [gx, a1, a2, if_pos ⟨rfl, gI_inb Ls m hm hL⟩, gI_nat m (by omega), a3 m hm]
  rw [e]
  rfl
theorem gl_r1 (hL : Ls < 2147483648) (X : gl_X h Ls xs) (hm : 5 * n + 5 ≤ Ls) (K : Int32 → Option β) : ((gk_ald (gv_ov h S) (some 14) 1 (gI (5 * n) + (1 : Int32))).bind gk_asI).bind K = K (xs (5 * n + 1)) := by
  rw [show gI (5 * n) + (1 : Int32) = gI (5 * n + 1) from gI_add _ 1]
  exact gl_rd hL X (by omega) K
theorem gl_r2 (hL : Ls < 2147483648) (X : gl_X h Ls xs) (hm : 5 * n + 5 ≤ Ls) (K : Int32 → Option β) : ((gk_ald (gv_ov h S) (some 14) 1 (gI (5 * n) + (2 : Int32))).bind gk_asI).bind K = K (xs (5 * n + 2)) := by
  rw [show gI (5 * n) + (2 : Int32) = gI (5 * n + 2) from gI_add _ 2]
  exact gl_rd hL X (by omega) K
theorem gl_r3 (hL : Ls < 2147483648) (X : gl_X h Ls xs) (hm : 5 * n + 5 ≤ Ls) (K : Int32 → Option β) : ((gk_ald (gv_ov h S) (some 14) 1 (gI (5 * n) + (3 : Int32))).bind gk_asI).bind K = K (xs (5 * n + 3)) := by
  rw [show gI (5 * n) + (3 : Int32) = gI (5 * n + 3) from gI_add _ 3]
  exact gl_rd hL X (by omega) K
theorem gl_r4 (hL : Ls < 2147483648) (X : gl_X h Ls xs) (hm : 5 * n + 5 ≤ Ls) (K : Int32 → Option β) : ((gk_ald (gv_ov h S) (some 14) 1 (gI (5 * n) + (4 : Int32))).bind gk_asI).bind K = K (xs (5 * n + 4)) := by
  rw [show gI (5 * n) + (4 : Int32) = gI (5 * n + 4) from gI_add _ 4]
  exact gl_rd hL X (by omega) K
theorem gl_th : f_M_thrown (some 30) (gv_ov h S) = some (S.1 30 0, gv_ov h S) := by
  unfold f_M_thrown
  exact gg_30_0 _
theorem gl_out : ((gk_ald (gv_ov h S) (some 42) 2 (0 : Int32)).bind gk_asL) = some S.2.2.2 := rfl
theorem gl_outD : ((gk_ald (gv_ov h S) (some 43) 6 (0 : Int32)).bind gk_asD) = some (S.2.1 43 0) := rfl
abbrev gl_L : Type := Option Nat → Option Nat → Option Nat → Option Nat → Option Nat → Int32 → gk_H → Option (Int32 × gk_H)
theorem gl_b848 (G : gl_L) (h : gk_H) : f_L_law_b848 G (some 14) (some 16) (some 30) (some 42) (some 43) (gI (5 * n)) h = G (some 14) (some 16) (some 30) (some 42) (some 43) (gI (5 * (n + 1))) h := by
  unfold f_L_law_b848
  rw [gk_let_eq, show gI (5 * n) + (5 : Int32) = gI (5 * (n + 1)) from gI_add _ 5]
theorem gl_b215 (G : gl_L) (h : gk_H) : f_L_law_b215 G (some 14) (some 16) (some 30) (some 42) (some 43) (gI (5 * n)) h = G (some 14) (some 16) (some 30) (some 42) (some 43) (gI (5 * (n + 1))) h := gl_b848 G h
theorem gl_b560 (G : gl_L) (h : gk_H) : f_L_law_b560 G (some 14) (some 16) (some 30) (some 42) (some 43) (gI (5 * n)) h = G (some 14) (some 16) (some 30) (some 42) (some 43) (gI (5 * (n + 1))) h := gl_b848 G h
theorem gl_b652 (G : gl_L) (h : gk_H) : f_L_law_b652 G (some 14) (some 16) (some 30) (some 42) (some 43) (gI (5 * n)) h = G (some 14) (some 16) (some 30) (some 42) (some 43) (gI (5 * (n + 1))) h := gl_b848 G h
theorem gl_b753 (G : gl_L) (h : gk_H) : f_L_law_b753 G (some 14) (some 16) (some 30) (some 42) (some 43) (gI (5 * n)) h = G (some 14) (some 16) (some 30) (some 42) (some 43) (gI (5 * (n + 1))) h := gl_b848 G h
theorem gl_b845 (G : gl_L) (h : gk_H) : f_L_law_b845 G (some 14) (some 16) (some 30) (some 42) (some 43) (gI (5 * n)) h = G (some 14) (some 16) (some 30) (some 42) (some 43) (gI (5 * (n + 1))) h := gl_b848 G h
def gl_E (cap0 : Nat) (h0 : gk_H) (n fu : Nat) (x : Option (Int32 × gk_H)) : Prop := ∃ h' S', x = f_L_law_b28 fu (some 14) (some 16) (some 30) (some 42) (some 43) (gI (5 * (n + 1))) (gv_ov h' S') ∧ gl_I cap0 h0 (n + 1) h' S'
theorem gl_gw1 {cap cap' : Nat} {h' : gk_H} (a : gp_gw (n * 303) (n * 8013) cap0 cap h0 h) (g : gp_gw 303 8013 cap cap' h h') : gp_gw ((n + 1) * 303) ((n + 1) * 8013) cap0 cap' h0 h' := (a.trans g).le (by omega) (by omega)
theorem gl_cdA {α : Type} {E1 : String} {o : Sum α String} (hz : gI (cdN E1 o) = 0) : ∃ v, o = .inl v := by
  cases o with
  | inl v => exact ⟨v, rfl⟩
  | inr E =>
    exfalso
    unfold cdN at hz
    dsimp only at hz
    split at hz <;> exact absurd hz (by decide)
theorem gl_lg (x : Int64) : lg_cmp x x = 0 := by
  unfold lg_cmp
  simp

theorem lb_0 (hL : Ls < 2147483648) (h14 : 14 < h0.1) (X0 : gl_X h0 Ls xs) (hm : 5 * n + 5 ≤ Ls) (I : gl_I cap0 h0 n h S) : gl_E cap0 h0 n fu ((((gk_ald (gv_ov h S) (some 14) 1 ((gI (5 * n)) + (1 : Int32))).bind gk_asI).bind fun x4 =>
  gk_dop (FP.dmul (FP.i2d x4) (0x3fc0000000000000)) fun x5 =>
  gk_ca (f_L_number (some 16) x5 (gv_ov h S)) fun x6 h1 =>
  ((gk_ald h1 (some 14) 1 ((gI (5 * n)) + (1 : Int32))).bind gk_asI).bind fun x7 =>
  gk_dop (FP.dmul (FP.i2d x7) (0x3fc0000000000000)) fun x8 =>
  gk_cv h1 (some 30) 7 (f_M_number (some 30) x8 h1) fun _ h2 =>
  gk_cv h2 (some 30) 7 (f_M_thrown (some 30) h2) fun x9 h3 =>
  if x9 = x6 then
  (f_L_law_b848 (f_L_law_b28 fu) (some 14) (some 16) (some 30) (some 42) (some 43) (gI (5 * n)) h3)
  else
  (if narrow .boolean (.int (0 : Int32)) = .int (0 : Int32) then some ((0 : Int32), h3) else none))) := by
  obtain ⟨b, cap, L, u, q, a, e, w⟩ := I
  have X := X0.sm h14 w.2.2.2
  have hf := gl_num (xs (5 * n + 1))
  obtain ⟨h1, S1, b1, cap1, e1, q1, f1, g1, A1⟩ := l_number q hf
  have X1 := X0.sm h14 (w.trans g1).2.2.2
  obtain ⟨S2, e2, o1, o2, o3, o4⟩ := mo_number (h := h1) (a.cl f1) (e.cl f1) hf
  rw [gl_r1 hL X hm, fd_dop hf.n, e1, gk_ca_some, gl_r1 hL X1 hm, fd_dop hf.n, gc_30, e2, gk_ca_some, gc_30, gl_th, gk_ca_some, o1, if_pos rfl, gl_b848]
  exact ⟨h1, S2, rfl, b1, cap1, _, _, q1.mf o4, o2, o3, gl_gw1 w g1⟩
theorem lb_1 (hL : Ls < 2147483648) (h14 : 14 < h0.1) (X0 : gl_X h0 Ls xs) (hm : 5 * n + 5 ≤ Ls) (I : gl_I cap0 h0 n h S) : gl_E cap0 h0 n fu ((((gk_ald (gv_ov h S) (some 14) 1 ((gI (5 * n)) + (1 : Int32))).bind gk_asI).bind fun x10 =>
  gk_ca (f_L_type (some 16) x10 (some 42) (gv_ov h S)) fun x11 h4 =>
  ((gk_ald h4 (some 14) 1 ((gI (5 * n)) + (1 : Int32))).bind gk_asI).bind fun x12 =>
  gk_cv h4 (some 30) 7 (f_M_type (some 30) x12 h4) fun x13 h5 =>
  gk_cv h5 (some 30) 7 (f_M_thrown (some 30) h5) fun x14 h6 =>
  if x14 = x11 then
  (if x11 = 0 then
  (((gk_ald h6 (some 42) 2 (0 : Int32)).bind gk_asL).bind fun x15 =>
  if (lg_cmp x15 (Int32.toInt64 x13)) = 0 then
  (f_L_law_b215 (f_L_law_b28 fu) (some 14) (some 16) (some 30) (some 42) (some 43) (gI (5 * n)) h6)
  else
  (if narrow .boolean (.int (0 : Int32)) = .int (0 : Int32) then some ((0 : Int32), h6) else none))
  else
  (f_L_law_b215 (f_L_law_b28 fu) (some 14) (some 16) (some 30) (some 42) (some 43) (gI (5 * n)) h6))
  else
  (if narrow .boolean (.int (0 : Int32)) = .int (0 : Int32) then some ((0 : Int32), h6) else none))) := by
  obtain ⟨b, cap, L, u, q, a, e, w⟩ := I
  have X := X0.sm h14 w.2.2.2
  obtain ⟨h1, S1, b1, cap1, e1, q1, f1, g1, A1⟩ := l_type q (xs (5 * n + 1))
  have X1 := X0.sm h14 (w.trans g1).2.2.2
  obtain ⟨S2, e2, o1, o2, o3, o4⟩ := mo_type (h := h1) (a.cl f1) (e.cl f1) (xs (5 * n + 1))
  rw [gl_r1 hL X hm, e1, gk_ca_some, gl_r1 hL X1 hm, gc_30, e2, gk_ca_some, gc_30, gl_th, gk_ca_some, o1, if_pos rfl]
  have fin := show gl_E cap0 h0 n fu (f_L_law_b215 (f_L_law_b28 fu) (some 14) (some 16) (some 30) (some 42) (some 43) (gI (5 * n)) (gv_ov h1 S2)) from ⟨h1, S2, gl_b215 _ _, b1, cap1, _, _, q1.mf o4, o2, o3, gl_gw1 w g1⟩
  split
  · rename_i hz
    obtain ⟨v, hv⟩ := gl_cdA hz
    have hS : S2.2.2.2 = Int32.toInt64 (anI (sp_type u (xs (5 * n + 1))).1) := by
      rw [o4.1, A1 v hv, hv]
      rfl
    rw [gl_out, Option.bind_some, hS, if_pos (gl_lg _)]
    exact fin
  · exact fin
theorem lb_2 (hL : Ls < 2147483648) (h14 : 14 < h0.1) (X0 : gl_X h0 Ls xs) (hm : 5 * n + 5 ≤ Ls) (I : gl_I cap0 h0 n h S) : gl_E cap0 h0 n fu ((gk_ca (f_L_text (some 16) (gv_ov h S)) fun x16 h7 =>
  gk_cv h7 (some 30) 7 (f_M_text (some 30) h7) fun _ h8 =>
  gk_cv h8 (some 30) 7 (f_M_thrown (some 30) h8) fun x17 h9 =>
  if x17 = x16 then
  (f_L_law_b848 (f_L_law_b28 fu) (some 14) (some 16) (some 30) (some 42) (some 43) (gI (5 * n)) h9)
  else
  (if narrow .boolean (.int (0 : Int32)) = .int (0 : Int32) then some ((0 : Int32), h9) else none))) := by
  obtain ⟨b, cap, L, u, q, a, e, w⟩ := I
  have X := X0.sm h14 w.2.2.2
  obtain ⟨h1, S1, b1, cap1, e1, q1, f1, g1, A1⟩ := l_text q 
  have X1 := X0.sm h14 (w.trans g1).2.2.2
  obtain ⟨S2, e2, o1, o2, o3, o4⟩ := mo_text (h := h1) (a.cl f1) (e.cl f1) 
  rw [e1, gk_ca_some, gc_30, e2, gk_ca_some, gc_30, gl_th, gk_ca_some, o1, if_pos rfl, gl_b848]
  exact ⟨h1, S2, rfl, b1, cap1, _, _, q1.mf o4, o2, o3, gl_gw1 w g1⟩
theorem lb_3 (hL : Ls < 2147483648) (h14 : 14 < h0.1) (X0 : gl_X h0 Ls xs) (hm : 5 * n + 5 ≤ Ls) (I : gl_I cap0 h0 n h S) : gl_E cap0 h0 n fu ((((gk_ald (gv_ov h S) (some 14) 1 ((gI (5 * n)) + (1 : Int32))).bind gk_asI).bind fun x18 =>
  ((gk_ald (gv_ov h S) (some 14) 1 ((gI (5 * n)) + (2 : Int32))).bind gk_asI).bind fun x19 =>
  gk_ca (f_L_plain (some 16) x18 x19 (gv_ov h S)) fun x20 h10 =>
  ((gk_ald h10 (some 14) 1 ((gI (5 * n)) + (1 : Int32))).bind gk_asI).bind fun x21 =>
  ((gk_ald h10 (some 14) 1 ((gI (5 * n)) + (2 : Int32))).bind gk_asI).bind fun x22 =>
  gk_cv h10 (some 30) 7 (f_M_plain (some 30) x21 x22 h10) fun _ h11 =>
  gk_cv h11 (some 30) 7 (f_M_thrown (some 30) h11) fun x23 h12 =>
  if x23 = x20 then
  (f_L_law_b848 (f_L_law_b28 fu) (some 14) (some 16) (some 30) (some 42) (some 43) (gI (5 * n)) h12)
  else
  (if narrow .boolean (.int (0 : Int32)) = .int (0 : Int32) then some ((0 : Int32), h12) else none))) := by
  obtain ⟨b, cap, L, u, q, a, e, w⟩ := I
  have X := X0.sm h14 w.2.2.2
  obtain ⟨h1, S1, b1, cap1, e1, q1, f1, g1, A1⟩ := l_plain q (xs (5 * n + 1)) (xs (5 * n + 2))
  have X1 := X0.sm h14 (w.trans g1).2.2.2
  obtain ⟨S2, e2, o1, o2, o3, o4⟩ := mo_plain (h := h1) (a.cl f1) (e.cl f1) (xs (5 * n + 1)) (xs (5 * n + 2))
  rw [gl_r1 hL X hm, gl_r2 hL X hm, e1, gk_ca_some, gl_r1 hL X1 hm, gl_r2 hL X1 hm, gc_30, e2, gk_ca_some, gc_30, gl_th, gk_ca_some, o1, if_pos rfl, gl_b848]
  exact ⟨h1, S2, rfl, b1, cap1, _, _, q1.mf o4, o2, o3, gl_gw1 w g1⟩
theorem lb_4 (hL : Ls < 2147483648) (h14 : 14 < h0.1) (X0 : gl_X h0 Ls xs) (hm : 5 * n + 5 ≤ Ls) (I : gl_I cap0 h0 n h S) : gl_E cap0 h0 n fu ((((gk_ald (gv_ov h S) (some 14) 1 ((gI (5 * n)) + (1 : Int32))).bind gk_asI).bind fun x24 =>
  ((gk_ald (gv_ov h S) (some 14) 1 ((gI (5 * n)) + (2 : Int32))).bind gk_asI).bind fun x25 =>
  gk_ca (f_L_array (some 16) x24 x25 (gv_ov h S)) fun x26 h13 =>
  ((gk_ald h13 (some 14) 1 ((gI (5 * n)) + (1 : Int32))).bind gk_asI).bind fun x27 =>
  ((gk_ald h13 (some 14) 1 ((gI (5 * n)) + (2 : Int32))).bind gk_asI).bind fun x28 =>
  gk_cv h13 (some 30) 7 (f_M_array (some 30) x27 x28 h13) fun _ h14 =>
  gk_cv h14 (some 30) 7 (f_M_thrown (some 30) h14) fun x29 h15 =>
  if x29 = x26 then
  (f_L_law_b848 (f_L_law_b28 fu) (some 14) (some 16) (some 30) (some 42) (some 43) (gI (5 * n)) h15)
  else
  (if narrow .boolean (.int (0 : Int32)) = .int (0 : Int32) then some ((0 : Int32), h15) else none))) := by
  obtain ⟨b, cap, L, u, q, a, e, w⟩ := I
  have X := X0.sm h14 w.2.2.2
  obtain ⟨h1, S1, b1, cap1, e1, q1, f1, g1, A1⟩ := l_array q (xs (5 * n + 1)) (xs (5 * n + 2))
  have X1 := X0.sm h14 (w.trans g1).2.2.2
  obtain ⟨S2, e2, o1, o2, o3, o4⟩ := mo_array (h := h1) (a.cl f1) (e.cl f1) (xs (5 * n + 1)) (xs (5 * n + 2))
  rw [gl_r1 hL X hm, gl_r2 hL X hm, e1, gk_ca_some, gl_r1 hL X1 hm, gl_r2 hL X1 hm, gc_30, e2, gk_ca_some, gc_30, gl_th, gk_ca_some, o1, if_pos rfl, gl_b848]
  exact ⟨h1, S2, rfl, b1, cap1, _, _, q1.mf o4, o2, o3, gl_gw1 w g1⟩
theorem lb_5 (hL : Ls < 2147483648) (h14 : 14 < h0.1) (X0 : gl_X h0 Ls xs) (hm : 5 * n + 5 ≤ Ls) (I : gl_I cap0 h0 n h S) : gl_E cap0 h0 n fu ((((gk_ald (gv_ov h S) (some 14) 1 ((gI (5 * n)) + (1 : Int32))).bind gk_asI).bind fun x30 =>
  gk_ca (f_L_operate (some 16) x30 (gv_ov h S)) fun x31 h16 =>
  ((gk_ald h16 (some 14) 1 ((gI (5 * n)) + (1 : Int32))).bind gk_asI).bind fun x32 =>
  gk_cv h16 (some 30) 7 (f_M_operate (some 30) x32 h16) fun _ h17 =>
  gk_cv h17 (some 30) 7 (f_M_thrown (some 30) h17) fun x33 h18 =>
  if x33 = x31 then
  (f_L_law_b848 (f_L_law_b28 fu) (some 14) (some 16) (some 30) (some 42) (some 43) (gI (5 * n)) h18)
  else
  (if narrow .boolean (.int (0 : Int32)) = .int (0 : Int32) then some ((0 : Int32), h18) else none))) := by
  obtain ⟨b, cap, L, u, q, a, e, w⟩ := I
  have X := X0.sm h14 w.2.2.2
  obtain ⟨h1, S1, b1, cap1, e1, q1, f1, g1, A1⟩ := l_operate q (xs (5 * n + 1))
  have X1 := X0.sm h14 (w.trans g1).2.2.2
  obtain ⟨S2, e2, o1, o2, o3, o4⟩ := mo_operate (h := h1) (a.cl f1) (e.cl f1) (xs (5 * n + 1))
  rw [gl_r1 hL X hm, e1, gk_ca_some, gl_r1 hL X1 hm, gc_30, e2, gk_ca_some, gc_30, gl_th, gk_ca_some, o1, if_pos rfl, gl_b848]
  exact ⟨h1, S2, rfl, b1, cap1, _, _, q1.mf o4, o2, o3, gl_gw1 w g1⟩
theorem lb_6 (hL : Ls < 2147483648) (h14 : 14 < h0.1) (X0 : gl_X h0 Ls xs) (hm : 5 * n + 5 ≤ Ls) (I : gl_I cap0 h0 n h S) : gl_E cap0 h0 n fu ((((gk_ald (gv_ov h S) (some 14) 1 ((gI (5 * n)) + (1 : Int32))).bind gk_asI).bind fun x34 =>
  ((gk_ald (gv_ov h S) (some 14) 1 ((gI (5 * n)) + (2 : Int32))).bind gk_asI).bind fun x35 =>
  gk_ca (f_L_call (some 16) x34 x35 (gv_ov h S)) fun x36 h19 =>
  ((gk_ald h19 (some 14) 1 ((gI (5 * n)) + (1 : Int32))).bind gk_asI).bind fun x37 =>
  ((gk_ald h19 (some 14) 1 ((gI (5 * n)) + (2 : Int32))).bind gk_asI).bind fun x38 =>
  gk_cv h19 (some 30) 7 (f_M_call (some 30) x37 x38 h19) fun _ h20 =>
  gk_cv h20 (some 30) 7 (f_M_thrown (some 30) h20) fun x39 h21 =>
  if x39 = x36 then
  (f_L_law_b848 (f_L_law_b28 fu) (some 14) (some 16) (some 30) (some 42) (some 43) (gI (5 * n)) h21)
  else
  (if narrow .boolean (.int (0 : Int32)) = .int (0 : Int32) then some ((0 : Int32), h21) else none))) := by
  obtain ⟨b, cap, L, u, q, a, e, w⟩ := I
  have X := X0.sm h14 w.2.2.2
  obtain ⟨h1, S1, b1, cap1, e1, q1, f1, g1, A1⟩ := l_call q (xs (5 * n + 1)) (xs (5 * n + 2))
  have X1 := X0.sm h14 (w.trans g1).2.2.2
  obtain ⟨S2, e2, o1, o2, o3, o4⟩ := mo_call (h := h1) (a.cl f1) (e.cl f1) (xs (5 * n + 1)) (xs (5 * n + 2))
  rw [gl_r1 hL X hm, gl_r2 hL X hm, e1, gk_ca_some, gl_r1 hL X1 hm, gl_r2 hL X1 hm, gc_30, e2, gk_ca_some, gc_30, gl_th, gk_ca_some, o1, if_pos rfl, gl_b848]
  exact ⟨h1, S2, rfl, b1, cap1, _, _, q1.mf o4, o2, o3, gl_gw1 w g1⟩
theorem lb_7 (hL : Ls < 2147483648) (h14 : 14 < h0.1) (X0 : gl_X h0 Ls xs) (hm : 5 * n + 5 ≤ Ls) (I : gl_I cap0 h0 n h S) : gl_E cap0 h0 n fu ((gk_ca (f_L_drop (some 16) (gv_ov h S)) fun x40 h22 =>
  gk_cv h22 (some 30) 7 (f_M_drop (some 30) h22) fun _ h23 =>
  gk_cv h23 (some 30) 7 (f_M_thrown (some 30) h23) fun x41 h24 =>
  if x41 = x40 then
  (f_L_law_b848 (f_L_law_b28 fu) (some 14) (some 16) (some 30) (some 42) (some 43) (gI (5 * n)) h24)
  else
  (if narrow .boolean (.int (0 : Int32)) = .int (0 : Int32) then some ((0 : Int32), h24) else none))) := by
  obtain ⟨b, cap, L, u, q, a, e, w⟩ := I
  have X := X0.sm h14 w.2.2.2
  obtain ⟨h1, S1, b1, cap1, e1, q1, f1, g1, A1⟩ := l_drop q 
  have X1 := X0.sm h14 (w.trans g1).2.2.2
  obtain ⟨S2, e2, o1, o2, o3, o4⟩ := mo_drop (h := h1) (a.cl f1) (e.cl f1) 
  rw [e1, gk_ca_some, gc_30, e2, gk_ca_some, gc_30, gl_th, gk_ca_some, o1, if_pos rfl, gl_b848]
  exact ⟨h1, S2, rfl, b1, cap1, _, _, q1.mf o4, o2, o3, gl_gw1 w g1⟩
theorem lb_8 (hL : Ls < 2147483648) (h14 : 14 < h0.1) (X0 : gl_X h0 Ls xs) (hm : 5 * n + 5 ≤ Ls) (I : gl_I cap0 h0 n h S) : gl_E cap0 h0 n fu ((((gk_ald (gv_ov h S) (some 14) 1 ((gI (5 * n)) + (1 : Int32))).bind gk_asI).bind fun x42 =>
  gk_ca (f_L_again (some 16) x42 (gv_ov h S)) fun x43 h25 =>
  ((gk_ald h25 (some 14) 1 ((gI (5 * n)) + (1 : Int32))).bind gk_asI).bind fun x44 =>
  gk_cv h25 (some 30) 7 (f_M_again (some 30) x44 h25) fun _ h26 =>
  gk_cv h26 (some 30) 7 (f_M_thrown (some 30) h26) fun x45 h27 =>
  if x45 = x43 then
  (f_L_law_b848 (f_L_law_b28 fu) (some 14) (some 16) (some 30) (some 42) (some 43) (gI (5 * n)) h27)
  else
  (if narrow .boolean (.int (0 : Int32)) = .int (0 : Int32) then some ((0 : Int32), h27) else none))) := by
  obtain ⟨b, cap, L, u, q, a, e, w⟩ := I
  have X := X0.sm h14 w.2.2.2
  obtain ⟨h1, S1, b1, cap1, e1, q1, f1, g1, A1⟩ := l_again q (xs (5 * n + 1))
  have X1 := X0.sm h14 (w.trans g1).2.2.2
  obtain ⟨S2, e2, o1, o2, o3, o4⟩ := mo_again (h := h1) (a.cl f1) (e.cl f1) (xs (5 * n + 1))
  rw [gl_r1 hL X hm, e1, gk_ca_some, gl_r1 hL X1 hm, gc_30, e2, gk_ca_some, gc_30, gl_th, gk_ca_some, o1, if_pos rfl, gl_b848]
  exact ⟨h1, S2, rfl, b1, cap1, _, _, q1.mf o4, o2, o3, gl_gw1 w g1⟩
theorem lb_9 (hL : Ls < 2147483648) (h14 : 14 < h0.1) (X0 : gl_X h0 Ls xs) (hm : 5 * n + 5 ≤ Ls) (I : gl_I cap0 h0 n h S) : gl_E cap0 h0 n fu ((gk_cv (gv_ov h S) (some 16) 5 (f_A_size (some 16) (gv_ov h S)) fun x46 h28 =>
  gk_cv h28 (some 30) 7 (f_M_size (some 30) h28) fun x47 h29 =>
  if x46 = x47 then
  (f_L_law_b848 (f_L_law_b28 fu) (some 14) (some 16) (some 30) (some 42) (some 43) (gI (5 * n)) h29)
  else
  (if narrow .boolean (.int (0 : Int32)) = .int (0 : Int32) then some ((0 : Int32), h29) else none))) := by
  obtain ⟨b, cap, L, u, q, a, e, w⟩ := I
  have X := X0.sm h14 w.2.2.2
  obtain ⟨S2, e2, o1, o2, o3, o4⟩ := mo_size (h := h) a e
  rw [gc_16, t_size q, gk_ca_some, gc_30, e2, gk_ca_some, if_pos rfl, gl_b848]
  exact ⟨h, S2, rfl, b, cap, L, u, q.mf o4, o2, o3, gl_gw1 w (gp_gw.of ((gp_ext.refl h).le (Nat.zero_le _) (Nat.zero_le _)))⟩
theorem lb_10 (hL : Ls < 2147483648) (h14 : 14 < h0.1) (X0 : gl_X h0 Ls xs) (hm : 5 * n + 5 ≤ Ls) (I : gl_I cap0 h0 n h S) : gl_E cap0 h0 n fu ((((gk_ald (gv_ov h S) (some 14) 1 ((gI (5 * n)) + (1 : Int32))).bind gk_asI).bind fun x48 =>
  ((gk_ald (gv_ov h S) (some 14) 1 ((gI (5 * n)) + (2 : Int32))).bind gk_asI).bind fun x49 =>
  gk_ca (f_L_about (some 16) x48 x49 (some 42) (gv_ov h S)) fun x50 h30 =>
  ((gk_ald h30 (some 14) 1 ((gI (5 * n)) + (1 : Int32))).bind gk_asI).bind fun x51 =>
  ((gk_ald h30 (some 14) 1 ((gI (5 * n)) + (2 : Int32))).bind gk_asI).bind fun x52 =>
  gk_cv h30 (some 30) 7 (f_M_about (some 30) x51 x52 h30) fun x53 h31 =>
  gk_cv h31 (some 30) 7 (f_M_thrown (some 30) h31) fun x54 h32 =>
  if x54 = x50 then
  (if x50 = 0 then
  (((gk_ald h32 (some 42) 2 (0 : Int32)).bind gk_asL).bind fun x55 =>
  if (lg_cmp x55 (Int32.toInt64 x53)) = 0 then
  (f_L_law_b560 (f_L_law_b28 fu) (some 14) (some 16) (some 30) (some 42) (some 43) (gI (5 * n)) h32)
  else
  (if narrow .boolean (.int (0 : Int32)) = .int (0 : Int32) then some ((0 : Int32), h32) else none))
  else
  (f_L_law_b560 (f_L_law_b28 fu) (some 14) (some 16) (some 30) (some 42) (some 43) (gI (5 * n)) h32))
  else
  (if narrow .boolean (.int (0 : Int32)) = .int (0 : Int32) then some ((0 : Int32), h32) else none))) := by
  obtain ⟨b, cap, L, u, q, a, e, w⟩ := I
  have X := X0.sm h14 w.2.2.2
  obtain ⟨h1, S1, b1, cap1, e1, q1, f1, g1, A1⟩ := l_about q (xs (5 * n + 1)) (xs (5 * n + 2))
  have X1 := X0.sm h14 (w.trans g1).2.2.2
  obtain ⟨S2, e2, o1, o2, o3, o4⟩ := mo_about (h := h1) (a.cl f1) (e.cl f1) (xs (5 * n + 1)) (xs (5 * n + 2))
  rw [gl_r1 hL X hm, gl_r2 hL X hm, e1, gk_ca_some, gl_r1 hL X1 hm, gl_r2 hL X1 hm, gc_30, e2, gk_ca_some, gc_30, gl_th, gk_ca_some, o1, if_pos rfl]
  have fin := show gl_E cap0 h0 n fu (f_L_law_b560 (f_L_law_b28 fu) (some 14) (some 16) (some 30) (some 42) (some 43) (gI (5 * n)) (gv_ov h1 S2)) from ⟨h1, S2, gl_b560 _ _, b1, cap1, _, _, q1.mf o4, o2, o3, gl_gw1 w g1⟩
  split
  · rename_i hz
    obtain ⟨v, hv⟩ := gl_cdA hz
    have hS : S2.2.2.2 = Int32.toInt64 (anI (sp_about L (xs (5 * n + 1)) (xs (5 * n + 2)))) := by
      rw [o4.1, A1 v hv, hv]
      rfl
    rw [gl_out, Option.bind_some, hS, if_pos (gl_lg _)]
    exact fin
  · exact fin
theorem lb_11 (hL : Ls < 2147483648) (h14 : 14 < h0.1) (X0 : gl_X h0 Ls xs) (hm : 5 * n + 5 ≤ Ls) (I : gl_I cap0 h0 n h S) : gl_E cap0 h0 n fu ((((gk_ald (gv_ov h S) (some 14) 1 ((gI (5 * n)) + (1 : Int32))).bind gk_asI).bind fun x56 =>
  ((gk_ald (gv_ov h S) (some 14) 1 ((gI (5 * n)) + (2 : Int32))).bind gk_asI).bind fun x57 =>
  ((gk_ald (gv_ov h S) (some 14) 1 ((gI (5 * n)) + (3 : Int32))).bind gk_asI).bind fun x58 =>
  ((gk_ald (gv_ov h S) (some 14) 1 ((gI (5 * n)) + (4 : Int32))).bind gk_asI).bind fun x59 =>
  gk_ca (f_L_cell (some 16) x56 x57 x58 x59 (some 42) (gv_ov h S)) fun x60 h33 =>
  ((gk_ald h33 (some 14) 1 ((gI (5 * n)) + (1 : Int32))).bind gk_asI).bind fun x61 =>
  ((gk_ald h33 (some 14) 1 ((gI (5 * n)) + (2 : Int32))).bind gk_asI).bind fun x62 =>
  ((gk_ald h33 (some 14) 1 ((gI (5 * n)) + (3 : Int32))).bind gk_asI).bind fun x63 =>
  ((gk_ald h33 (some 14) 1 ((gI (5 * n)) + (4 : Int32))).bind gk_asI).bind fun x64 =>
  gk_cv h33 (some 30) 7 (f_M_cell (some 30) x61 x62 x63 x64 h33) fun x65 h34 =>
  gk_cv h34 (some 30) 7 (f_M_thrown (some 30) h34) fun x66 h35 =>
  if x66 = x60 then
  (if x60 = 0 then
  (((gk_ald h35 (some 42) 2 (0 : Int32)).bind gk_asL).bind fun x67 =>
  if (lg_cmp x67 (Int32.toInt64 x65)) = 0 then
  (f_L_law_b652 (f_L_law_b28 fu) (some 14) (some 16) (some 30) (some 42) (some 43) (gI (5 * n)) h35)
  else
  (if narrow .boolean (.int (0 : Int32)) = .int (0 : Int32) then some ((0 : Int32), h35) else none))
  else
  (f_L_law_b652 (f_L_law_b28 fu) (some 14) (some 16) (some 30) (some 42) (some 43) (gI (5 * n)) h35))
  else
  (if narrow .boolean (.int (0 : Int32)) = .int (0 : Int32) then some ((0 : Int32), h35) else none))) := by
  obtain ⟨b, cap, L, u, q, a, e, w⟩ := I
  have X := X0.sm h14 w.2.2.2
  obtain ⟨h1, S1, b1, cap1, e1, q1, f1, g1, A1⟩ := l_cell q (xs (5 * n + 1)) (xs (5 * n + 2)) (xs (5 * n + 3)) (xs (5 * n + 4))
  have X1 := X0.sm h14 (w.trans g1).2.2.2
  obtain ⟨S2, e2, o1, o2, o3, o4⟩ := mo_cell (h := h1) (a.cl f1) (e.cl f1) (xs (5 * n + 1)) (xs (5 * n + 2)) (xs (5 * n + 3)) (xs (5 * n + 4))
  rw [gl_r1 hL X hm, gl_r2 hL X hm, gl_r3 hL X hm, gl_r4 hL X hm, e1, gk_ca_some, gl_r1 hL X1 hm, gl_r2 hL X1 hm, gl_r3 hL X1 hm, gl_r4 hL X1 hm, gc_30, e2, gk_ca_some, gc_30, gl_th, gk_ca_some, o1, if_pos rfl]
  have fin := show gl_E cap0 h0 n fu (f_L_law_b652 (f_L_law_b28 fu) (some 14) (some 16) (some 30) (some 42) (some 43) (gI (5 * n)) (gv_ov h1 S2)) from ⟨h1, S2, gl_b652 _ _, b1, cap1, _, _, q1.mf o4, o2, o3, gl_gw1 w g1⟩
  split
  · rename_i hz
    obtain ⟨v, hv⟩ := gl_cdA hz
    have hS : S2.2.2.2 = Int32.toInt64 (anI (sp_cell L (xs (5 * n + 1)) (xs (5 * n + 2)) (xs (5 * n + 3)) (xs (5 * n + 4)))) := by
      rw [o4.1, A1 v hv, hv]
      rfl
    rw [gl_out, Option.bind_some, hS, if_pos (gl_lg _)]
    exact fin
  · exact fin
theorem lb_12 (hL : Ls < 2147483648) (h14 : 14 < h0.1) (X0 : gl_X h0 Ls xs) (hm : 5 * n + 5 ≤ Ls) (I : gl_I cap0 h0 n h S) : gl_E cap0 h0 n fu ((((gk_ald (gv_ov h S) (some 14) 1 ((gI (5 * n)) + (1 : Int32))).bind gk_asI).bind fun x68 =>
  ((gk_ald (gv_ov h S) (some 14) 1 ((gI (5 * n)) + (2 : Int32))).bind gk_asI).bind fun x69 =>
  ((gk_ald (gv_ov h S) (some 14) 1 ((gI (5 * n)) + (3 : Int32))).bind gk_asI).bind fun x70 =>
  gk_ca (f_L_value (some 16) x68 x69 x70 (some 43) (gv_ov h S)) fun x71 h36 =>
  ((gk_ald h36 (some 14) 1 ((gI (5 * n)) + (1 : Int32))).bind gk_asI).bind fun x72 =>
  ((gk_ald h36 (some 14) 1 ((gI (5 * n)) + (2 : Int32))).bind gk_asI).bind fun x73 =>
  ((gk_ald h36 (some 14) 1 ((gI (5 * n)) + (3 : Int32))).bind gk_asI).bind fun x74 =>
  gk_cv h36 (some 30) 7 (f_M_value (some 30) x72 x73 x74 h36) fun x75 h37 =>
  gk_cv h37 (some 30) 7 (f_M_thrown (some 30) h37) fun x76 h38 =>
  if x76 = x71 then
  (if x71 = 0 then
  (((gk_ald h38 (some 43) 6 (0 : Int32)).bind gk_asD).bind fun x77 =>
  if (Op.cmpValue (FP.dcmp x77 x75) .l) = 0 then
  (f_L_law_b753 (f_L_law_b28 fu) (some 14) (some 16) (some 30) (some 42) (some 43) (gI (5 * n)) h38)
  else
  (((gk_ald h38 (some 43) 6 (0 : Int32)).bind gk_asD).bind fun x78 =>
  ((gk_ald h38 (some 43) 6 (0 : Int32)).bind gk_asD).bind fun x79 =>
  if (Op.cmpValue (FP.dcmp x78 x79) .l) = 0 then
  (f_L_law_b751 h38)
  else
  (if (Op.cmpValue (FP.dcmp x75 x75) .l) = 0 then
  (f_L_law_b751 h38)
  else
  (f_L_law_b753 (f_L_law_b28 fu) (some 14) (some 16) (some 30) (some 42) (some 43) (gI (5 * n)) h38))))
  else
  (f_L_law_b753 (f_L_law_b28 fu) (some 14) (some 16) (some 30) (some 42) (some 43) (gI (5 * n)) h38))
  else
  (if narrow .boolean (.int (0 : Int32)) = .int (0 : Int32) then some ((0 : Int32), h38) else none))) := by
  obtain ⟨b, cap, L, u, q, a, e, w⟩ := I
  have X := X0.sm h14 w.2.2.2
  obtain ⟨h1, S1, b1, cap1, e1, q1, f1, g1, A1⟩ := l_value q (xs (5 * n + 1)) (xs (5 * n + 2)) (xs (5 * n + 3))
  have X1 := X0.sm h14 (w.trans g1).2.2.2
  obtain ⟨S2, e2, o1, o2, o3, o4⟩ := mo_value (h := h1) (a.cl f1) (e.cl f1) (xs (5 * n + 1)) (xs (5 * n + 2)) (xs (5 * n + 3))
  rw [gl_r1 hL X hm, gl_r2 hL X hm, gl_r3 hL X hm, e1, gk_ca_some, gl_r1 hL X1 hm, gl_r2 hL X1 hm, gl_r3 hL X1 hm, gc_30, e2, gk_ca_some, gc_30, gl_th, gk_ca_some, o1, if_pos rfl]
  have fin := show gl_E cap0 h0 n fu (f_L_law_b753 (f_L_law_b28 fu) (some 14) (some 16) (some 30) (some 42) (some 43) (gI (5 * n)) (gv_ov h1 S2)) from ⟨h1, S2, gl_b753 _ _, b1, cap1, _, _, q1.mf o4, o2, o3, gl_gw1 w g1⟩
  split
  · rename_i hz
    obtain ⟨v, hv⟩ := gl_cdA hz
    have hS : S2.2.1 43 0 = anD (sp_value L (xs (5 * n + 1)) (xs (5 * n + 2)) (xs (5 * n + 3))) := by
      rw [(o4.2 43 0 (Or.inr (by decide))).2, A1 v hv, hv]
      rfl
    rw [gl_outD, Option.bind_some, hS]
    split
    · exact fin
    · rename_i hne
      rw [Option.bind_some, Option.bind_some, if_neg hne]
      exact fin
  · exact fin
theorem lb_13 (hL : Ls < 2147483648) (h14 : 14 < h0.1) (X0 : gl_X h0 Ls xs) (hm : 5 * n + 5 ≤ Ls) (I : gl_I cap0 h0 n h S) : gl_E cap0 h0 n fu ((((gk_ald (gv_ov h S) (some 14) 1 ((gI (5 * n)) + (1 : Int32))).bind gk_asI).bind fun x80 =>
  ((gk_ald (gv_ov h S) (some 14) 1 ((gI (5 * n)) + (2 : Int32))).bind gk_asI).bind fun x81 =>
  ((gk_ald (gv_ov h S) (some 14) 1 ((gI (5 * n)) + (3 : Int32))).bind gk_asI).bind fun x82 =>
  ((gk_ald (gv_ov h S) (some 14) 1 ((gI (5 * n)) + (4 : Int32))).bind gk_asI).bind fun x83 =>
  gk_ca (f_L_letter (some 16) x80 x81 x82 x83 (some 42) (gv_ov h S)) fun x84 h39 =>
  ((gk_ald h39 (some 14) 1 ((gI (5 * n)) + (1 : Int32))).bind gk_asI).bind fun x85 =>
  ((gk_ald h39 (some 14) 1 ((gI (5 * n)) + (2 : Int32))).bind gk_asI).bind fun x86 =>
  ((gk_ald h39 (some 14) 1 ((gI (5 * n)) + (3 : Int32))).bind gk_asI).bind fun x87 =>
  ((gk_ald h39 (some 14) 1 ((gI (5 * n)) + (4 : Int32))).bind gk_asI).bind fun x88 =>
  gk_cv h39 (some 30) 7 (f_M_letter (some 30) x85 x86 x87 x88 h39) fun x89 h40 =>
  gk_cv h40 (some 30) 7 (f_M_thrown (some 30) h40) fun x90 h41 =>
  if x90 = x84 then
  (if x84 = 0 then
  (((gk_ald h41 (some 42) 2 (0 : Int32)).bind gk_asL).bind fun x91 =>
  if (lg_cmp x91 (Int32.toInt64 x89)) = 0 then
  (f_L_law_b845 (f_L_law_b28 fu) (some 14) (some 16) (some 30) (some 42) (some 43) (gI (5 * n)) h41)
  else
  (if narrow .boolean (.int (0 : Int32)) = .int (0 : Int32) then some ((0 : Int32), h41) else none))
  else
  (f_L_law_b845 (f_L_law_b28 fu) (some 14) (some 16) (some 30) (some 42) (some 43) (gI (5 * n)) h41))
  else
  (if narrow .boolean (.int (0 : Int32)) = .int (0 : Int32) then some ((0 : Int32), h41) else none))) := by
  obtain ⟨b, cap, L, u, q, a, e, w⟩ := I
  have X := X0.sm h14 w.2.2.2
  obtain ⟨h1, S1, b1, cap1, e1, q1, f1, g1, A1⟩ := l_letter q (xs (5 * n + 1)) (xs (5 * n + 2)) (xs (5 * n + 3)) (xs (5 * n + 4))
  have X1 := X0.sm h14 (w.trans g1).2.2.2
  obtain ⟨S2, e2, o1, o2, o3, o4⟩ := mo_letter (h := h1) (a.cl f1) (e.cl f1) (xs (5 * n + 1)) (xs (5 * n + 2)) (xs (5 * n + 3)) (xs (5 * n + 4))
  rw [gl_r1 hL X hm, gl_r2 hL X hm, gl_r3 hL X hm, gl_r4 hL X hm, e1, gk_ca_some, gl_r1 hL X1 hm, gl_r2 hL X1 hm, gl_r3 hL X1 hm, gl_r4 hL X1 hm, gc_30, e2, gk_ca_some, gc_30, gl_th, gk_ca_some, o1, if_pos rfl]
  have fin := show gl_E cap0 h0 n fu (f_L_law_b845 (f_L_law_b28 fu) (some 14) (some 16) (some 30) (some 42) (some 43) (gI (5 * n)) (gv_ov h1 S2)) from ⟨h1, S2, gl_b845 _ _, b1, cap1, _, _, q1.mf o4, o2, o3, gl_gw1 w g1⟩
  split
  · rename_i hz
    obtain ⟨v, hv⟩ := gl_cdA hz
    have hS : S2.2.2.2 = Int32.toInt64 (anI (sp_letter L (xs (5 * n + 1)) (xs (5 * n + 2)) (xs (5 * n + 3)) (xs (5 * n + 4)))) := by
      rw [o4.1, A1 v hv, hv]
      rfl
    rw [gl_out, Option.bind_some, hS, if_pos (gl_lg _)]
    exact fin
  · exact fin
theorem gl_k (x : Int32) : ∃ n, x &&& (15 : Int32) = gI n ∧ n ≤ 15 := by
  refine ⟨x.toBitVec.toNat &&& 15, ?_, Nat.and_le_right⟩
  have hle : x.toBitVec.toNat &&& 15 ≤ 15 := Nat.and_le_right
  apply Int32.toBitVec_inj.mp
  apply BitVec.eq_of_toNat_eq
  show (x.toBitVec &&& 15#32).toNat = (BitVec.ofNat 32 (x.toBitVec.toNat &&& 15)).toNat
  rw [BitVec.toNat_and]
  show x.toBitVec.toNat &&& 15 = _
  rw [BitVec.toNat_ofNat, Nat.mod_eq_of_lt (by omega)]
theorem gl_step (hL : Ls < 2147483648) (h14 : 14 < h0.1) (X0 : gl_X h0 Ls xs) (hm : 5 * n + 5 ≤ Ls) (I : gl_I cap0 h0 n h S) : gl_E cap0 h0 n fu (f_L_law_b28 (fu + 1) (some 14) (some 16) (some 30) (some 42) (some 43) (gI (5 * n)) (gv_ov h S)) := by
  have X : gl_X h Ls xs := by
    obtain ⟨b, cap, L, u, q, a, e, w⟩ := I
    exact X0.sm h14 w.2.2.2
  have hlen : gk_len (gv_ov h S) (some 14) = some (gI Ls) := by
    obtain ⟨a1, a2, a3⟩ := X
    have gx : (gv_ov h S).2.2 14 = h.2.2 14 := gv_no rfl
    unfold gk_len
    dsimp only
    rw [gx, a1, a2]
    rfl
  unfold f_L_law_b28
  rw [hlen, Option.bind_some, show gI Ls - (5 : Int32) = gI (Ls - 5) from gI_sub _ 5 (by omega), ite_lt _ _ _ _ (by omega) (by omega), if_neg (by omega), gl_rd hL X (by omega)]
  obtain ⟨k, hk, hk15⟩ := gl_k (xs (5 * n))
  rw [gk_let_eq, hk]
  have d : ∀ {G : gl_L}, G = f_L_law_b28 fu → gl_E cap0 h0 n fu (f_L_law_b848 G (some 14) (some 16) (some 30) (some 42) (some 43) (gI (5 * n)) (gv_ov h S)) := by
    intro G hG
    obtain ⟨b, cap, L, u, q, a, e, w⟩ := I
    rw [hG]
    exact ⟨h, S, gl_b848 _ _, b, cap, L, u, q, a, e, gl_gw1 w (gp_gw.of ((gp_ext.refl h).le (Nat.zero_le _) (Nat.zero_le _)))⟩
  match k, hk15 with
  | 0, _ => rw [if_pos (by decide)]; exact lb_0 hL h14 X0 hm I
  | 1, _ => rw [if_neg (by decide), if_pos (by decide)]; exact lb_1 hL h14 X0 hm I
  | 2, _ => rw [if_neg (by decide), if_neg (by decide), if_pos (by decide)]; exact lb_2 hL h14 X0 hm I
  | 3, _ => rw [if_neg (by decide), if_neg (by decide), if_neg (by decide), if_pos (by decide)]; exact lb_3 hL h14 X0 hm I
  | 4, _ => rw [if_neg (by decide), if_neg (by decide), if_neg (by decide), if_neg (by decide), if_pos (by decide)]; exact lb_4 hL h14 X0 hm I
  | 5, _ => rw [if_neg (by decide), if_neg (by decide), if_neg (by decide), if_neg (by decide), if_neg (by decide), if_pos (by decide)]; exact lb_5 hL h14 X0 hm I
  | 6, _ => rw [if_neg (by decide), if_neg (by decide), if_neg (by decide), if_neg (by decide), if_neg (by decide), if_neg (by decide), if_pos (by decide)]; exact lb_6 hL h14 X0 hm I
  | 7, _ => rw [if_neg (by decide), if_neg (by decide), if_neg (by decide), if_neg (by decide), if_neg (by decide), if_neg (by decide), if_neg (by decide), if_pos (by decide)]; exact lb_7 hL h14 X0 hm I
  | 8, _ => rw [if_neg (by decide), if_neg (by decide), if_neg (by decide), if_neg (by decide), if_neg (by decide), if_neg (by decide), if_neg (by decide), if_neg (by decide), if_pos (by decide)]; exact lb_8 hL h14 X0 hm I
  | 9, _ => rw [if_neg (by decide), if_neg (by decide), if_neg (by decide), if_neg (by decide), if_neg (by decide), if_neg (by decide), if_neg (by decide), if_neg (by decide), if_neg (by decide), if_pos (by decide)]; exact lb_9 hL h14 X0 hm I
  | 10, _ => rw [if_neg (by decide), if_neg (by decide), if_neg (by decide), if_neg (by decide), if_neg (by decide), if_neg (by decide), if_neg (by decide), if_neg (by decide), if_neg (by decide), if_neg (by decide), if_pos (by decide)]; exact lb_10 hL h14 X0 hm I
  | 11, _ => rw [if_neg (by decide), if_neg (by decide), if_neg (by decide), if_neg (by decide), if_neg (by decide), if_neg (by decide), if_neg (by decide), if_neg (by decide), if_neg (by decide), if_neg (by decide), if_neg (by decide), if_pos (by decide)]; exact lb_11 hL h14 X0 hm I
  | 12, _ => rw [if_neg (by decide), if_neg (by decide), if_neg (by decide), if_neg (by decide), if_neg (by decide), if_neg (by decide), if_neg (by decide), if_neg (by decide), if_neg (by decide), if_neg (by decide), if_neg (by decide), if_neg (by decide), if_pos (by decide)]; exact lb_12 hL h14 X0 hm I
  | 13, _ => rw [if_neg (by decide), if_neg (by decide), if_neg (by decide), if_neg (by decide), if_neg (by decide), if_neg (by decide), if_neg (by decide), if_neg (by decide), if_neg (by decide), if_neg (by decide), if_neg (by decide), if_neg (by decide), if_neg (by decide), if_pos (by decide)]; exact lb_13 hL h14 X0 hm I
  | 14, _ => rw [if_neg (by decide), if_neg (by decide), if_neg (by decide), if_neg (by decide), if_neg (by decide), if_neg (by decide), if_neg (by decide), if_neg (by decide), if_neg (by decide), if_neg (by decide), if_neg (by decide), if_neg (by decide), if_neg (by decide), if_neg (by decide)]; exact d rfl
  | 15, _ => rw [if_neg (by decide), if_neg (by decide), if_neg (by decide), if_neg (by decide), if_neg (by decide), if_neg (by decide), if_neg (by decide), if_neg (by decide), if_neg (by decide), if_neg (by decide), if_neg (by decide), if_neg (by decide), if_neg (by decide), if_neg (by decide)]; exact d rfl
  | k + 16, hk => exact absurd hk (by omega)
end GLB
