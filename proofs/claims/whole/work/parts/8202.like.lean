/-! THE PURE PART: likeness (class) -/
def lk_m (c : Nat) : Int := if c = 63 then -1 else if c = 42 then -2 else (nl_g c : Int)
def lk_e (c d : Nat) : Bool := c == 126 && (d == 63 || d == 42 || d == 126)
def lk_tk : List Nat → List Int
  | [] => []
  | [c] => [lk_m c]
  | c :: d :: r => if lk_e c d = true then (d : Int) :: lk_tk r else lk_m c :: lk_tk (d :: r)
def lk_star (f : List Nat → Bool) : List Nat → Bool
  | [] => f []
  | c :: t => f (c :: t) || lk_star f t
def lk_one (m : Int) (f : List Nat → Bool) : List Nat → Bool
  | [] => false
  | c :: t => decide (m = -1 ∨ m = (nl_g c : Int)) && f t
def lk (op : Bool) : List Int → List Nat → Bool
  | [] => fun t => op || t.isEmpty
  | m :: ms => if m = -2 then lk_star (lk op ms) else lk_one m (lk op ms)
theorem lk_tk_len : ∀ l : List Nat, (lk_tk l).length ≤ l.length
  | [] => Nat.le_refl _
  | [_] => Nat.le_refl _
  | c :: d :: r => by
    unfold lk_tk
    split
    · have := lk_tk_len r
      rw [List.length_cons, List.length_cons, List.length_cons]
      omega
    · have := lk_tk_len (d :: r)
      rw [List.length_cons, List.length_cons]
      omega
theorem lk_m_b {c : Nat} (h : c < 128) : -2 ≤ lk_m c ∧ lk_m c < 128 := by
  have := nl_g_lt h
  unfold lk_m
  split
  · omega
  · split <;> omega
theorem lk_tk_b : ∀ l : List Nat, (∀ c ∈ l, c < 128) → ∀ m ∈ lk_tk l, -2 ≤ m ∧ m < 128
  | [], _, m, hm => absurd hm List.not_mem_nil
  | [c], h, m, hm => by
    rw [List.mem_singleton.mp (show m ∈ [lk_m c] from hm)]
    exact lk_m_b (h c List.mem_cons_self)
  | c :: d :: r, h, m, hm => by
    unfold lk_tk at hm
    split at hm
    · rcases List.mem_cons.mp hm with q | q
      · have := h d (List.mem_cons_of_mem _ List.mem_cons_self)
        omega
      · exact lk_tk_b r (fun x hx => h x (List.mem_cons_of_mem _ (List.mem_cons_of_mem _ hx))) m q
    · rcases List.mem_cons.mp hm with q | q
      · rw [q]
        exact lk_m_b (h c List.mem_cons_self)
      · exact lk_tk_b (d :: r) (fun x hx => h x (List.mem_cons_of_mem _ hx)) m q
/-- what likeness may change -/
def mLk (a b : Nat) : Prop := (a = 26 ∧ b = 1) ∨ (27 ≤ a ∧ a ≤ 29)
def lkM (T : gv_S) (ms : List Int) : Prop := T.1 26 1 = gI ms.length ∧ ∀ k, k < ms.length → T.1 27 k = gN (ms.getD k 0)
def lkW (T : gv_S) (l : List Nat) : Prop := ∀ k, k < l.length → T.1 28 k = gI (nl_g (l.getD k 0))
def lkO (T : gv_S) (f : Nat → Bool) (n : Nat) : Prop := ∀ p, p ≤ n → T.1 29 p = gB (f p)
theorem gB_and1 (e : Bool) : gB e &&& 1 = gB e := by cases e <;> rfl
theorem lkM.X {T T' : gv_S} {ms : List Int} {P : Nat → Nat → Prop} (a : lkM T ms) (q : mX P T T') (h : ∀ x y, P x y → ¬ (x = 26 ∧ y = 1) ∧ x ≠ 27) : lkM T' ms :=
  ⟨by rw [q.i (fun z => (h _ _ z).1 ⟨rfl, rfl⟩)]; exact a.1, fun k hk => by rw [q.i (fun z => (h _ _ z).2 rfl)]; exact a.2 k hk⟩
theorem lk_push {T : gv_S} {ms : List Int} (m : Int) (a : lkM T ms) : lkM (gv_uI (gv_uI T 27 ms.length (gN m)) 26 1 (gI (ms.length + 1))) (ms ++ [m]) := by
  refine ⟨?_, fun k hk => ?_⟩
  · rw [gu_I2, List.length_append, List.length_singleton]
  · rw [List.length_append, List.length_singleton] at hk
    rw [gu_I1 _ _ _ _ _ _ (by omega)]
    by_cases z : k = ms.length
    · rw [z, gu_I2]
      simp [List.getD_eq_getElem?_getD]
    · rw [gu_I1 _ _ _ _ _ _ (by omega), a.2 k (by omega)]
      congr 1
      simp only [List.getD_eq_getElem?_getD]
      rw [List.getElem?_append_left (by omega)]
theorem lk_tk_snoc (c d : Nat) (r : List Nat) : lk_tk (c :: d :: r) = if lk_e c d = true then (d : Int) :: lk_tk r else lk_m c :: lk_tk (d :: r) := by
  rw [lk_tk]
section LKP
variable {b i : Nat} {h : gk_H} {l : List Nat}
theorem lk_prep (hs : gp_st h) (a : gp_str b h i l) (hl : l.length ≤ 255) : ∀ (n : Nat) (t p : List Nat) (ms : List Int) (fu : Nat) (T : gv_S), t.length ≤ n → l = p ++ t → n < fu → lkM T ms → ms.length ≤ p.length → ∃ T', f_Li_prepare_b7 fu (some 26) (some i) (gI p.length) (gv_ov h T) = some ((), gv_ov h T') ∧ mX mLk T T' ∧ lkM T' (ms ++ lk_tk t) := by
  obtain ⟨-, a2, a3, -, x0, -, -, -, -, -, -, g4⟩ := id a
  have ch : ∀ (p t : List Nat) (c : Nat) (T : gv_S), l = p ++ c :: t → c < 128 ∧ p.length < l.length ∧ f_St_charAt (some i) (gI p.length) (gv_ov h T) = some (gI c, gv_ov h T) := fun p t c T e => by
    have hk : p.length < l.length := by rw [e]; simp
    have h1 := (g4 p.length hk).2
    have h2 := s_charAt (S := T) hs a hk
    rw [show l.getD p.length 0 = c from by rw [e, gp_mid]] at h1 h2
    exact ⟨h1, hk, h2⟩
  intro n
  induction n with
  | zero =>
    intro t p ms fu T ht e hf hM hp
    obtain ⟨fu, rfl⟩ : ∃ f, fu = f + 1 := ⟨fu - 1, by omega⟩
    have htn : t = [] := List.length_eq_zero_iff.mp (by omega)
    subst htn
    rw [List.append_nil] at e
    rw [f_Li_prepare_b7]
    dsimp only
    rw [gp_cv a2.1 a3, s_len hs a, gk_ca_some, e, ite_le _ _ _ _ (by rw [e] at hl; omega) (by rw [e] at hl; omega), if_pos (Nat.le_refl _)]
    refine ⟨T, rfl, mX.refl _ _, ?_⟩
    show lkM T (ms ++ [])
    rw [List.append_nil]
    exact hM
  | succ n ih =>
    intro t p ms fu T ht e hf hM hp
    obtain ⟨fu, rfl⟩ : ∃ f, fu = f + 1 := ⟨fu - 1, by omega⟩
    have hlen : l.length = p.length + t.length := by rw [e, List.length_append]
    rw [f_Li_prepare_b7]
    dsimp only
    rw [gp_cv a2.1 a3, s_len hs a, gk_ca_some, ite_le _ _ _ _ (by omega) (by omega)]
    cases t with
    | nil =>
      rw [if_pos (by rw [hlen]; exact Nat.le_refl _)]
      refine ⟨T, rfl, mX.refl _ _, ?_⟩
      show lkM T (ms ++ [])
      rw [List.append_nil]
      exact hM
    | cons c t =>
      rw [List.length_cons] at ht hlen
      obtain ⟨c1, c2, c3⟩ := ch p t c T e
      rw [if_neg (by omega), gg_26_1, gr_26_0, gl_27, hM.1, ite_le _ _ _ _ (by decide) (by omega), if_neg (by omega), gp_cv a2.1 a3, c3, gk_ca_some, gp_cv a2.1 a3, s_len hs a, gk_ca_some, gI_1, gI_add, ite_le _ _ _ _ (by omega) (by omega)]
      -- a mark is put, the place goes on
      have put : ∀ (m : Int) (q u : List Nat), l = q ++ u → u.length ≤ n → p.length + 1 ≤ q.length → ∃ T', ((gk_get (gv_ov h (gv_uI T 27 ms.length (gN m))) (some 26) 3 1).bind gk_asI).bind (fun x1 => (gk_set (gv_ov h (gv_uI T 27 ms.length (gN m))) (some 26) 3 1 (.int (x1 + (1 : Int32)))).bind fun h1 => f_Li_prepare_b7 fu (some 26) (some i) (gI q.length) h1) = some ((), gv_ov h T') ∧ mX mLk T T' ∧ lkM T' (ms ++ (m :: lk_tk u)) := by
        intro m q u hq hu hpq
        have h26 : (gv_uI T 27 ms.length (gN m)).1 26 1 = gI ms.length := by rw [gu_I1 _ _ _ _ _ _ (by omega)]; exact hM.1
        rw [gg_26_1, h26, gI_1, gI_add, gs_26_1]
        obtain ⟨T', r1, r2, r3⟩ := ih u q (ms ++ [m]) fu _ hu hq (by omega) (lk_push m hM) (by rw [List.length_append, List.length_singleton]; omega)
        refine ⟨T', r1, ((mX.I _ (Or.inr ⟨by decide, by decide⟩)).trans (mX.I _ (Or.inl ⟨rfl, rfl⟩))).trans r2, ?_⟩
        rw [show ms ++ m :: lk_tk u = ms ++ [m] ++ lk_tk u from by simp]
        exact r3
      have hms : ms.length < 255 := by omega
      have b101 : ∃ T', f_Li_prepare_b101 (f_Li_prepare_b7 fu) (some 26) (some i) (gI p.length) (gI c) (gv_ov h T) = some ((), gv_ov h T') ∧ mX mLk T T' ∧ lkM T' (ms ++ (lk_m c :: lk_tk t)) := by
        have hput := put (lk_m c) (p ++ [c]) t (by rw [e]; simp) (by omega) (by simp)
        rw [List.length_append, List.length_singleton] at hput
        unfold f_Li_prepare_b101 f_Li_prepare_b134 f_Li_prepare_b138
        rw [gr_26_0, gg_26_1, hM.1, gI_lit 63, gI_lit 42, ite_eq _ _ _ _ (by omega) (by decide), ite_eq _ _ _ _ (by omega) (by decide), n_great c c1, gk_ca_some]
        have e2 : lk_m c = if c = 63 then -1 else if c = 42 then -2 else (nl_g c : Int) := rfl
        by_cases z1 : c = 63
        · rw [if_pos z1] at e2
          rw [if_pos z1, gt_27 hms, gk_let_eq, gI_1, gI_add]
          rw [e2] at hput ⊢
          exact hput
        · rw [if_neg z1] at e2
          rw [if_neg z1]
          by_cases z2 : c = 42
          · rw [if_pos z2] at e2
            rw [if_pos z2, gt_27 hms, gk_let_eq, gI_1, gI_add]
            rw [e2] at hput ⊢
            exact hput
          · rw [if_neg z2] at e2
            rw [if_neg z2, gt_27 hms, gk_let_eq, gI_1, gI_add]
            rw [e2] at hput ⊢
            rw [gI_N (nl_g c)]
            exact hput
      cases t with
      | nil =>
        rw [if_pos (by rw [hlen]; simp)]
        unfold f_Li_prepare_b55
        have hlast : ∃ T', f_Li_prepare_b101 (f_Li_prepare_b7 fu) (some 26) (some i) (gI p.length) (gI c) (gv_ov h T) = some ((), gv_ov h T') ∧ mX mLk T T' ∧ lkM T' (ms ++ lk_tk [c]) := b101
        rw [if_neg (show ¬ (32 : Int32) = 63 by decide), if_neg (show ¬ (32 : Int32) = 42 by decide), if_neg (show ¬ (32 : Int32) = 126 by decide)]
        split <;> exact hlast
      | cons d t =>
        have e1 : l = (p ++ [c]) ++ d :: t := by rw [e]; simp
        obtain ⟨d1, d2, d3⟩ := ch (p ++ [c]) t d T e1
        rw [List.length_append, List.length_singleton] at d3
        rw [List.length_cons] at ht hlen
        rw [if_neg (by omega), gp_cv a2.1 a3, d3, gk_ca_some]
        have b84 : ∃ T', f_Li_prepare_b84 (f_Li_prepare_b7 fu) (some 26) (some i) (gI p.length) (gI d) (gv_ov h T) = some ((), gv_ov h T') ∧ mX mLk T T' ∧ lkM T' (ms ++ ((d : Int) :: lk_tk t)) := by
          have hput := put (d : Int) (p ++ [c, d]) t (by rw [e]; simp) (by omega) (by simp)
          rw [List.length_append, show [c, d].length = 2 from rfl, ← gI_N] at hput
          unfold f_Li_prepare_b84 f_Li_prepare_b138
          rw [gr_26_0, gg_26_1, hM.1, gt_27 hms, gk_let_eq, gI_lit 2, gI_add]
          exact hput
        unfold f_Li_prepare_b55
        rw [gI_lit 126, gI_lit 63, gI_lit 42, ite_eq _ _ _ _ (by omega) (by decide), ite_eq _ _ _ _ (by omega) (by decide), ite_eq _ _ _ _ (by omega) (by decide), ite_eq _ _ _ _ (by omega) (by decide), lk_tk_snoc]
        by_cases z : c = 126
        · rw [if_pos z]
          by_cases z1 : d = 63
          · rw [if_pos z1, if_pos (show lk_e c d = true by unfold lk_e; simp [z, z1])]
            exact b84
          · rw [if_neg z1]
            by_cases z2 : d = 42
            · rw [if_pos z2, if_pos (show lk_e c d = true by unfold lk_e; simp [z, z2])]
              exact b84
            · rw [if_neg z2]
              by_cases z3 : d = 126
              · rw [if_pos z3, if_pos (show lk_e c d = true by unfold lk_e; simp [z, z3])]
                exact b84
              · rw [if_neg z3, if_neg (show ¬ lk_e c d = true by unfold lk_e; simp [z1, z2, z3])]
                exact b101
        · rw [if_neg z, if_neg (show ¬ lk_e c d = true by unfold lk_e; simp [z])]
          exact b101
theorem l_prepare (hs : gp_st h) (a : gp_str b h i l) (hl : l.length ≤ 255) (T : gv_S) : ∃ T', f_Li_prepare (some 26) (some i) (gv_ov h T) = some ((), gv_ov h T') ∧ mX mLk T T' ∧ lkM T' (lk_tk l) := by
  unfold f_Li_prepare
  rw [gI_0, gs_26_1]
  obtain ⟨T', r1, r2, r3⟩ := lk_prep hs a hl l.length l [] [] gk_F (gv_uI T 26 1 (gI 0)) (Nat.le_refl _) rfl (by unfold gk_F; omega) ⟨gu_I2 _ _ _ _, fun k hk => absurd hk (Nat.not_lt_zero _)⟩ (Nat.le_refl _)
  exact ⟨T', r1, (mX.I _ (Or.inl ⟨rfl, rfl⟩)).trans r2, r3⟩
theorem nte_lt0 {β : Sort _} (x y : β) (a : Int) (h1 : -2147483648 ≤ a) (h2 : a < 2147483648) : (if gN a < (0 : Int32) then x else y) = if a < 0 then x else y := nte_lt x y a 0 h1 h2 (by decide) (by decide)
/-- the places that are open: of what follows them -/
def lkF (op : Bool) (ms : List Int) (l : List Nat) (p : Nat) : Bool := lk op ms (l.drop p)
def m29 (a _b : Nat) : Prop := a = 29
theorem l_many (f : List Nat → Bool) (hl : l.length ≤ 255) : ∀ (m fu : Nat) (T : gv_S), m ≤ l.length → m < fu → (∀ p, p ≤ l.length → T.1 29 p = gB (if m ≤ p then lk_star f (l.drop p) else f (l.drop p))) → ∃ T', f_Li_stepOverMany_b4 fu (some 26) (gN ((m : Int) - 1)) (gv_ov h T) = some ((), gv_ov h T') ∧ mX m29 T T' ∧ lkO T' (fun p => lk_star f (l.drop p)) l.length := by
  intro m
  induction m with
  | zero =>
    intro fu T hm hf hT
    obtain ⟨fu, rfl⟩ : ∃ f, fu = f + 1 := ⟨fu - 1, by omega⟩
    rw [f_Li_stepOverMany_b4]
    dsimp only
    rw [gN_0, nte_lt _ _ _ _ (by decide) (by decide) (by decide) (by decide), if_pos (by decide)]
    exact ⟨T, rfl, mX.refl _ _, fun p hp => by rw [hT p hp, if_pos (Nat.zero_le _)]⟩
  | succ m ih =>
    intro fu T hm hf hT
    obtain ⟨fu, rfl⟩ : ∃ f, fu = f + 1 := ⟨fu - 1, by omega⟩
    rw [f_Li_stepOverMany_b4]
    dsimp only
    have e1 : ((m + 1 : Nat) : Int) - 1 = (m : Int) := by omega
    have t1 : T.1 29 m = gB (f (l.drop m)) := by rw [hT m (by omega), if_neg (show ¬ m + 1 ≤ m by omega)]
    have t2 : T.1 29 (m + 1) = gB (lk_star f (l.drop (m + 1))) := by rw [hT (m + 1) (by omega), if_pos (Nat.le_refl _)]
    rw [e1, nte_lt0 _ _ _ (by omega) (by omega), if_neg (by omega), ← gI_N, gr_26_3, gr_26_3, ga_29 (by omega), t1, ite_B, gr_26_3, show gI m + (1 : Int32) = gI (m + 1) from gI_add m 1, ga_29 (by omega), t2, ite_B]
    have hdrop : l.drop m = l.getD m 0 :: l.drop (m + 1) := by
      rw [List.drop_eq_getElem_cons (by omega), List.getD_eq_getElem?_getD, List.getElem?_eq_getElem (by omega)]
      rfl
    have hst : lk_star f (l.drop m) = (f (l.drop m) || lk_star f (l.drop (m + 1))) := by
      rw [hdrop]
      rfl
    have b38 : ∀ e : Bool, e = lk_star f (l.drop m) → ∃ T', f_Li_stepOverMany_b38 (f_Li_stepOverMany_b4 fu) (some 26) (gI m) (some 29) (gI m) (gB e) (gv_ov h T) = some ((), gv_ov h T') ∧ mX m29 T T' ∧ lkO T' (fun p => lk_star f (l.drop p)) l.length := by
      intro e he
      unfold f_Li_stepOverMany_b38
      rw [gt_29 (by omega), gB_and1, gk_let_eq, gI_m1B, gI_N m, gN_add]
      obtain ⟨T', r1, r2, r3⟩ := ih fu (gv_uI T 29 m (gB e)) (by omega) (by omega) (fun p hp => by
        by_cases z : p = m
        · rw [z, gu_I2, if_pos (Nat.le_refl _), he]
        · rw [gu_I1 _ _ _ _ _ _ (by omega), hT p hp]
          by_cases z2 : m + 1 ≤ p
          · rw [if_pos z2, if_pos (by omega)]
          · rw [if_neg z2, if_neg (by omega)])
      exact ⟨T', r1, (mX.I (P := m29) _ rfl).trans r2, r3⟩
    unfold f_Li_stepOverMany_b33
    by_cases z : f (l.drop m) = true
    · rw [if_pos z]
      exact b38 true (by rw [hst, z]; rfl)
    · rw [if_neg z]
      have z' := Bool.eq_false_iff.mpr z
      by_cases z2 : lk_star f (l.drop (m + 1)) = true
      · rw [if_pos z2]
        exact b38 true (by rw [hst, z', z2]; rfl)
      · rw [if_neg z2]
        exact b38 false (by rw [hst, z', Bool.eq_false_iff.mpr z2]; rfl)
theorem l_one (f : List Nat → Bool) (m : Int) (hm1 : -1 ≤ m) (hm2 : m < 128) (hl : l.length ≤ 255) (h128 : ∀ c ∈ l, c < 128) : ∀ (n k fu : Nat) (T : gv_S), k + n = l.length → n < fu → lkW T l → (∀ p, p ≤ l.length → T.1 29 p = gB (if p < k then lk_one m f (l.drop p) else f (l.drop p))) → ∃ T', f_Li_stepOverOne_b2 fu (some 26) (gI l.length) (gN m) (gI k) (gv_ov h T) = some ((), gv_ov h T') ∧ mX m29 T T' ∧ lkO T' (fun p => lk_one m f (l.drop p)) l.length := by
  intro n
  induction n with
  | zero =>
    intro k fu T hk hf hW hT
    obtain ⟨fu, rfl⟩ : ∃ f, fu = f + 1 := ⟨fu - 1, by omega⟩
    rw [f_Li_stepOverOne_b2]
    dsimp only
    rw [ite_le _ _ _ _ (by omega) (by omega), if_pos (by omega), gr_26_3, gt_29 (by omega)]
    refine ⟨_, rfl, mX.I (P := m29) _ rfl, fun p hp => ?_⟩
    by_cases z : p = l.length
    · rw [z, gu_I2]
      show _ = gB (lk_one m f (l.drop l.length))
      rw [List.drop_length]
      rfl
    · rw [gu_I1 _ _ _ _ _ _ (by omega), hT p hp, if_pos (by omega)]
  | succ n ih =>
    intro k fu T hk hf hW hT
    obtain ⟨fu, rfl⟩ : ∃ f, fu = f + 1 := ⟨fu - 1, by omega⟩
    rw [f_Li_stepOverOne_b2]
    dsimp only
    have hdrop : l.drop k = l.getD k 0 :: l.drop (k + 1) := by
      rw [List.drop_eq_getElem_cons (by omega), List.getD_eq_getElem?_getD, List.getElem?_eq_getElem (by omega)]
      rfl
    have hc : l.getD k 0 < 128 := h128 _ (by
      rw [List.getD_eq_getElem?_getD, List.getElem?_eq_getElem (by omega)]
      exact List.getElem_mem _)
    have hg := nl_g_lt hc
    rw [ite_le _ _ _ _ (by omega) (by omega), if_neg (by omega), gI_m1B, nte_eq _ _ _ _ (by omega) (by omega) (by decide) (by decide), gr_26_2, ga_28 (by omega), hW k (by omega), gI_N (nl_g _), nte_eq _ _ _ _ (by omega) (by omega) (by omega) (by omega)]
    have b55 : ∀ e : Bool, e = lk_one m f (l.drop k) → ∃ T', f_Li_stepOverOne_b55 (f_Li_stepOverOne_b2 fu) (some 26) (gI l.length) (gN m) (gI k) (some 29) (gI k) (gB e) (gv_ov h T) = some ((), gv_ov h T') ∧ mX m29 T T' ∧ lkO T' (fun p => lk_one m f (l.drop p)) l.length := by
      intro e he
      unfold f_Li_stepOverOne_b55
      rw [gt_29 (by omega), gB_and1, gk_let_eq, gI_1, gI_add]
      obtain ⟨T', r1, r2, r3⟩ := ih (k + 1) fu (gv_uI T 29 k (gB e)) (by omega) (by omega) (fun q hq => by rw [gu_I1 _ _ _ _ _ _ (by omega)]; exact hW q hq) (fun p hp => by
        by_cases z : p = k
        · rw [z, gu_I2, if_pos (by omega), he]
        · rw [gu_I1 _ _ _ _ _ _ (by omega), hT p hp]
          by_cases z2 : p < k
          · rw [if_pos z2, if_pos (by omega)]
          · rw [if_neg z2, if_neg (by omega)])
      exact ⟨T', r1, (mX.I (P := m29) _ rfl).trans r2, r3⟩
    have b27 : ∀ e : Bool, e = decide (m = -1 ∨ m = (nl_g (l.getD k 0) : Int)) → ∃ T', f_Li_stepOverOne_b27 (f_Li_stepOverOne_b2 fu) (some 26) (gI l.length) (gN m) (gI k) (gB e) (gv_ov h T) = some ((), gv_ov h T') ∧ mX m29 T T' ∧ lkO T' (fun p => lk_one m f (l.drop p)) l.length := by
      intro e he
      have hst : lk_one m f (l.drop k) = (e && f (l.drop (k + 1))) := by rw [hdrop, he]; rfl
      unfold f_Li_stepOverOne_b27 f_Li_stepOverOne_b54
      rw [gr_26_3, ite_B]
      by_cases z : e = true
      · have t2 : T.1 29 (k + 1) = gB (f (l.drop (k + 1))) := by rw [hT (k + 1) (by omega), if_neg (show ¬ k + 1 < k by omega)]
        rw [if_pos z, gr_26_3, show gI k + (1 : Int32) = gI (k + 1) from gI_add k 1, ga_29 (by omega), t2, ite_B]
        by_cases z2 : f (l.drop (k + 1)) = true
        · rw [if_pos z2]
          exact b55 true (by rw [hst, z, z2]; rfl)
        · rw [if_neg z2]
          exact b55 false (by rw [hst, Bool.eq_false_iff.mpr z2, Bool.and_false])
      · rw [if_neg z]
        exact b55 false (by rw [hst, Bool.eq_false_iff.mpr z]; rfl)
    unfold f_Li_stepOverOne_b22
    by_cases z : m = -1
    · rw [if_pos z]
      exact b27 true (decide_eq_true (Or.inl z)).symm
    · rw [if_neg z]
      by_cases z2 : m = (nl_g (l.getD k 0) : Int)
      · rw [if_pos z2]
        exact b27 true (decide_eq_true (Or.inr z2)).symm
      · rw [if_neg z2]
        exact b27 false (decide_eq_false (by omega)).symm
theorem lkO.X {T T' : gv_S} {f : Nat → Bool} {n : Nat} {P : Nat → Nat → Prop} (a : lkO T f n) (q : mX P T T') (h : ∀ x y, P x y → x ≠ 29) : lkO T' f n := fun p hp => by
  rw [q.i (fun z => h _ _ z rfl)]
  exact a p hp
theorem l_steps (op : Bool) (ms : List Int) (hms : ms.length ≤ 255) (hmb : ∀ m ∈ ms, -2 ≤ m ∧ m < 128) (hl : l.length ≤ 255) (h128 : ∀ c ∈ l, c < 128) : ∀ (k fu : Nat) (T : gv_S), k ≤ ms.length → k < fu → lkM T ms → lkW T l → lkO T (lkF op (ms.drop k) l) l.length → ∃ T', f_Li_look_b87 fu (some 26) (gI l.length) (gN ((k : Int) - 1)) (gv_ov h T) = some ((), gv_ov h T') ∧ mX m29 T T' ∧ lkO T' (lkF op ms l) l.length := by
  intro k
  induction k with
  | zero =>
    intro fu T hk hf hM hW hO
    obtain ⟨fu, rfl⟩ : ∃ f, fu = f + 1 := ⟨fu - 1, by omega⟩
    rw [f_Li_look_b87]
    dsimp only
    rw [gN_0, nte_lt _ _ _ _ (by decide) (by decide) (by decide) (by decide), if_pos (by decide)]
    exact ⟨T, rfl, mX.refl _ _, hO⟩
  | succ k ih =>
    intro fu T hk hf hM hW hO
    obtain ⟨fu, rfl⟩ : ∃ f, fu = f + 1 := ⟨fu - 1, by omega⟩
    rw [f_Li_look_b87]
    dsimp only
    have e1 : ((k + 1 : Nat) : Int) - 1 = (k : Int) := by omega
    have hmem : ms.getD k 0 ∈ ms := by
      rw [List.getD_eq_getElem?_getD, List.getElem?_eq_getElem (by omega)]
      exact List.getElem_mem _
    obtain ⟨b1, b2⟩ := hmb _ hmem
    have hdrop : ms.drop k = ms.getD k 0 :: ms.drop (k + 1) := by
      rw [List.drop_eq_getElem_cons (by omega), List.getD_eq_getElem?_getD, List.getElem?_eq_getElem (by omega)]
      rfl
    rw [e1, gN_0, nte_lt _ _ _ _ (by omega) (by omega) (by decide) (by decide), if_neg (by omega), ← gI_N, gr_26_0, ga_27 (by omega), hM.2 k (by omega), show (-2 : Int32) = gN (-2) from by decide, nte_eq _ _ _ _ (by omega) (by omega) (by decide) (by decide), gr_26_0, ga_27 (by omega), hM.2 k (by omega), gc_26, gc_26]
    have hnext : ∀ (T1 : gv_S), mX m29 T T1 → lkO T1 (lkF op (ms.drop k) l) l.length → ∃ T', f_Li_look_b124 (f_Li_look_b87 fu) (some 26) (gI l.length) (gI k) (gv_ov h T1) = some ((), gv_ov h T') ∧ mX m29 T T' ∧ lkO T' (lkF op ms l) l.length := by
      intro T1 q1 q2
      unfold f_Li_look_b124
      rw [gk_let_eq, gI_m1B, gI_N k, gN_add]
      obtain ⟨T', r1, r2, r3⟩ := ih fu T1 (by omega) (by omega) (hM.X q1 fun x y z => by unfold m29 at z; omega) (fun q hq => by rw [q1.i (by unfold m29; omega)]; exact hW q hq) q2
      exact ⟨T', r1, q1.trans r2, r3⟩
    by_cases z : ms.getD k 0 = -2
    · rw [if_pos z]
      obtain ⟨T1, r1, r2, r3⟩ := l_many (h := h) (lk op (ms.drop (k + 1))) hl l.length gk_F T (Nat.le_refl _) (by unfold gk_F; omega) (fun p hp => by
        rw [hO p hp]
        by_cases w : l.length ≤ p
        · rw [if_pos w]
          have : l.drop p = [] := List.drop_eq_nil_iff.mpr w
          unfold lkF
          rw [this]
          rfl
        · rw [if_neg w]
          rfl)
      unfold f_Li_stepOverMany
      have e9 : gI l.length - 1 = gN ((l.length : Int) - 1) := gI_subN l.length 1
      rw [gk_let_eq, e9, r1, gk_ca_some]
      refine hnext T1 r2 ?_
      intro p hp
      rw [r3 p hp]
      unfold lkF
      rw [hdrop, z]
      rfl
    · rw [if_neg z]
      obtain ⟨T1, r1, r2, r3⟩ := l_one (h := h) (lk op (ms.drop (k + 1))) (ms.getD k 0) (by omega) b2 hl h128 l.length 0 gk_F T (by omega) (by unfold gk_F; omega) hW (fun p hp => by
        rw [hO p hp, if_neg (Nat.not_lt_zero _)]
        rfl)
      have r1' : f_Li_stepOverOne (some 26) (gI l.length) (gN (ms.getD k 0)) (gv_ov h T) = some ((), gv_ov h T1) := r1
      rw [r1', gk_ca_some]
      refine hnext T1 r2 ?_
      intro p hp
      rw [r3 p hp]
      unfold lkF
      rw [hdrop]
      show _ = gB ((if ms.getD k 0 = -2 then lk_star (lk op (ms.drop (k + 1))) else lk_one (ms.getD k 0) (lk op (ms.drop (k + 1)))) (l.drop p))
      rw [if_neg z]
theorem l_look (hs : gp_st h) (a : gp_str b h i l) (hl : l.length ≤ 255) (op : Bool) (ms : List Int) (hms : ms.length ≤ 255) (hmb : ∀ m ∈ ms, -2 ≤ m ∧ m < 128) (T : gv_S) (hM : lkM T ms) : ∃ T', f_Li_look (some 26) (some i) (gB op) (gv_ov h T) = some ((), gv_ov h T') ∧ mX mLk T T' ∧ lkM T' ms ∧ lkO T' (lkF op ms l) l.length := by
  obtain ⟨-, a2, a3, -, x0, -, -, -, -, -, -, g4⟩ := id a
  have h128 : ∀ c ∈ l, c < 128 := fun c hc => by
    obtain ⟨k, hk, e⟩ := List.getElem_of_mem hc
    have := (g4 k hk).2
    rw [List.getD_eq_getElem?_getD, List.getElem?_eq_getElem hk] at this
    rw [← e]
    exact this
  -- the characters
  have chars : ∀ (n k fu : Nat) (T : gv_S), k + n = l.length → n < fu → (∀ q, q < k → T.1 28 q = gI (nl_g (l.getD q 0))) → ∃ T1, f_Li_look_b51 fu (some 26) (some i) (gI l.length) (gI k) (gv_ov h T) = (((gk_get (gv_ov h T1) (some 26) 3 1).bind gk_asI).bind fun x1 => f_Li_look_b87 gk_F (some 26) (gI l.length) (x1 - 1) (gv_ov h T1)) ∧ mX (fun a _ => a = 28) T T1 ∧ lkW T1 l := by
    intro n
    induction n with
    | zero =>
      intro k fu T hk hf hW
      obtain ⟨fu, rfl⟩ : ∃ f, fu = f + 1 := ⟨fu - 1, by omega⟩
      rw [f_Li_look_b51]
      dsimp only
      rw [ite_le _ _ _ _ (by omega) (by omega), if_pos (by omega)]
      exact ⟨T, rfl, mX.refl _ _, fun q hq => hW q (by omega)⟩
    | succ n ih =>
      intro k fu T hk hf hW
      obtain ⟨fu, rfl⟩ : ∃ f, fu = f + 1 := ⟨fu - 1, by omega⟩
      have hc := (g4 k (by omega)).2
      rw [f_Li_look_b51]
      dsimp only
      rw [ite_le _ _ _ _ (by omega) (by omega), if_neg (by omega), gr_26_2, gp_cv a2.1 a3, s_charAt hs a (by omega), gk_ca_some, n_great _ hc, gk_ca_some, gt_28 (by omega), gI_cc (nl_g_lt hc), gk_let_eq, gI_1, gI_add]
      obtain ⟨T1, r1, r2, r3⟩ := ih (k + 1) fu (gv_uI T 28 k (gI (nl_g (l.getD k 0)))) (by omega) (by omega) (fun q hq => by
        by_cases z : q = k
        · rw [z, gu_I2]
        · rw [gu_I1 _ _ _ _ _ _ (by omega)]
          exact hW q (by omega))
      exact ⟨T1, r1, (mX.I (P := fun a _ => a = 28) _ rfl).trans r2, r3⟩
  have init : ∀ (n k fu : Nat) (T : gv_S), k + n = l.length + 1 → n < fu → (∀ q, q < k → T.1 29 q = gB (op || decide (q = l.length))) → ∃ T1, f_Li_look_b14 fu (some 26) (some i) (gB op) (gI l.length) (gI k) (gv_ov h T) = f_Li_look_b51 gk_F (some 26) (some i) (gI l.length) (0 : Int32) (gv_ov h T1) ∧ mX m29 T T1 ∧ lkO T1 (lkF op [] l) l.length := by
    intro n
    induction n with
    | zero =>
      intro k fu T hk hf hO
      obtain ⟨fu, rfl⟩ : ∃ f, fu = f + 1 := ⟨fu - 1, by omega⟩
      rw [f_Li_look_b14]
      dsimp only
      rw [ite_lt _ _ _ _ (by omega) (by omega), if_pos (by omega)]
      refine ⟨T, rfl, mX.refl _ _, fun q hq => ?_⟩
      rw [hO q (by omega)]
      show gB _ = gB (op || (l.drop q).isEmpty)
      congr 2
      by_cases z : q = l.length
      · rw [decide_eq_true z, z, List.drop_length]
        rfl
      · rw [decide_eq_false z, List.isEmpty_eq_false_iff.mpr (fun w => z (by have := List.drop_eq_nil_iff.mp w; omega))]
    | succ n ih =>
      intro k fu T hk hf hO
      obtain ⟨fu, rfl⟩ : ∃ f, fu = f + 1 := ⟨fu - 1, by omega⟩
      rw [f_Li_look_b14]
      dsimp only
      rw [ite_lt _ _ _ _ (by omega) (by omega), if_neg (by omega), gr_26_3, ite_B, ite_eq _ _ _ _ (by omega) (by omega)]
      have b41 : ∀ e : Bool, e = (op || decide (k = l.length)) → ∃ T1, f_Li_look_b41 (f_Li_look_b14 fu) (some 26) (some i) (gB op) (gI l.length) (gI k) (some 29) (gI k) (gB e) (gv_ov h T) = f_Li_look_b51 gk_F (some 26) (some i) (gI l.length) (0 : Int32) (gv_ov h T1) ∧ mX m29 T T1 ∧ lkO T1 (lkF op [] l) l.length := by
        intro e he
        unfold f_Li_look_b41
        rw [gt_29 (by omega), gB_and1, gk_let_eq, gI_1, gI_add]
        obtain ⟨T1, r1, r2, r3⟩ := ih (k + 1) fu (gv_uI T 29 k (gB e)) (by omega) (by omega) (fun q hq => by
          by_cases z : q = k
          · rw [z, gu_I2, he]
          · rw [gu_I1 _ _ _ _ _ _ (by omega)]
            exact hO q (by omega))
        exact ⟨T1, r1, (mX.I (P := m29) _ rfl).trans r2, r3⟩
      unfold f_Li_look_b36
      by_cases z : op = true
      · rw [if_pos z]
        exact b41 true (by rw [z]; rfl)
      · rw [if_neg z]
        have z' := Bool.eq_false_iff.mpr z
        by_cases z2 : k = l.length
        · rw [if_pos z2]
          exact b41 true (by rw [z', decide_eq_true z2]; rfl)
        · rw [if_neg z2]
          exact b41 false (by rw [z', decide_eq_false z2]; rfl)
  unfold f_Li_look
  rw [gp_cv a2.1 a3, s_len hs a, gk_ca_some, gI_lit 255, f_min _ _ (by omega) (by decide), gk_ca_some, Nat.min_eq_left hl]
  obtain ⟨T1, r1, r2, r3⟩ := init (l.length + 1) 0 gk_F T (by omega) (by unfold gk_F; omega) (fun q hq => absurd hq (Nat.not_lt_zero _))
  obtain ⟨T2, s1, s2, s3⟩ := chars l.length 0 gk_F T1 (by omega) (by unfold gk_F; omega) (fun q hq => absurd hq (Nat.not_lt_zero _))
  have hM1 := hM.X r2 fun x y z => by unfold m29 at z; omega
  have hM2 := hM1.X s2 fun x y z => by omega
  have r1' : f_Li_look_b14 gk_F (some 26) (some i) (gB op) (gI l.length) (0 : Int32) (gv_ov h T) = _ := r1
  have s1' : f_Li_look_b51 gk_F (some 26) (some i) (gI l.length) (0 : Int32) (gv_ov h T1) = _ := s1
  have e9 : gI ms.length - 1 = gN ((ms.length : Int) - 1) := gI_subN ms.length 1
  rw [r1', s1', gg_26_1, hM2.1, e9]
  obtain ⟨T3, t1, t2, t3⟩ := l_steps (h := h) op ms hms hmb hl h128 ms.length gk_F T2 (Nat.le_refl _) (by unfold gk_F; omega) hM2 s3 (by
    rw [List.drop_length]
    exact r3.X s2 fun x y z => by omega)
  refine ⟨T3, t1, ((r2.le fun x y z => ?_).trans (s2.le fun x y z => ?_)).trans (t2.le fun x y z => ?_), hM2.X t2 fun x y z => by unfold m29 at z; omega, t3⟩
  · unfold m29 at z; unfold mLk; omega
  · unfold mLk; omega
  · unfold m29 at z; unfold mLk; omega
theorem l_met (hs : gp_st h) (a : gp_str b h i l) (hl : l.length ≤ 255) (ms : List Int) (hms : ms.length ≤ 255) (hmb : ∀ m ∈ ms, -2 ≤ m ∧ m < 128) (T : gv_S) (hM : lkM T ms) : ∃ T', f_Li_isMetBy (some 26) (some i) (gv_ov h T) = some (gB (lk false ms l), gv_ov h T') ∧ mX mLk T T' ∧ lkM T' ms := by
  obtain ⟨T', r1, r2, r3, r4⟩ := l_look hs a hl false ms hms hmb T hM
  have r1' : f_Li_look (some 26) (some i) (0 : Int32) (gv_ov h T) = some ((), gv_ov h T') := r1
  have r40 := r4 0 (Nat.zero_le _)
  unfold f_Li_isMetBy
  rw [gc_26, r1', gk_ca_some, gr_26_3, gI_0, ga_29 (by decide), r40, nbB]
  exact ⟨T', rfl, r2, r3⟩
def lk_first (ms : List Int) (l : List Nat) : Nat → Nat → Option Nat
  | 0, _ => none
  | n + 1, p => if lkF true ms l p = true then some p else lk_first ms l n (p + 1)
theorem l_first (hs : gp_st h) (a : gp_str b h i l) (hl : l.length ≤ 255) (ms : List Int) (hms : ms.length ≤ 255) (hmb : ∀ m ∈ ms, -2 ≤ m ∧ m < 128) (T : gv_S) (hM : lkM T ms) (from_ : Nat) (hfr : from_ ≤ l.length) : ∃ T', f_Li_firstPlace (some 26) (some i) (gI from_) (gv_ov h T) = some (match lk_first ms l (l.length + 1 - from_) from_ with | none => gN (-1) | some p => gI p, gv_ov h T') ∧ mX mLk T T' := by
  obtain ⟨-, a2, a3, -⟩ := id a
  obtain ⟨T', r1, r2, r3, r4⟩ := l_look hs a hl true ms hms hmb T hM
  have r1' : f_Li_look (some 26) (some i) (1 : Int32) (gv_ov h T) = some ((), gv_ov h T') := r1
  have loop : ∀ (n p fu : Nat), p + n = l.length + 1 → n < fu → f_Li_firstPlace_b12 fu (some 26) (some i) (gI p) (gv_ov h T') = some (match lk_first ms l n p with | none => gN (-1) | some p => gI p, gv_ov h T') := by
    intro n
    induction n with
    | zero =>
      intro p fu hp hf
      obtain ⟨fu, rfl⟩ : ∃ f, fu = f + 1 := ⟨fu - 1, by omega⟩
      rw [f_Li_firstPlace_b12]
      dsimp only
      rw [gp_cv a2.1 a3, s_len hs a, gk_ca_some, ite_lt _ _ _ _ (by omega) (by omega), if_pos (by omega)]
      unfold f_Li_firstPlace_b46
      rw [gI_m1B]
      rfl
    | succ n ih =>
      intro p fu hp hf
      obtain ⟨fu, rfl⟩ : ∃ f, fu = f + 1 := ⟨fu - 1, by omega⟩
      rw [f_Li_firstPlace_b12]
      dsimp only
      rw [gp_cv a2.1 a3, s_len hs a, gk_ca_some, ite_lt _ _ _ _ (by omega) (by omega), if_neg (by omega), gr_26_3, gl_29, ite_le _ _ _ _ (by decide) (by omega), if_neg (by omega), gr_26_3, ga_29 (by omega), r4 p (by omega), ite_B]
      unfold lk_first
      by_cases z : lkF true ms l p = true
      · rw [if_pos z, if_pos z]
      · rw [if_neg z, if_neg z, gk_let_eq, gI_1, gI_add]
        exact ih (p + 1) fu (by omega) (by omega)
  unfold f_Li_firstPlace
  rw [gc_26, r1', gk_ca_some, gI_0, f_max _ _ (by omega) (by decide), gk_ca_some, Nat.max_eq_left (Nat.zero_le _)]
  exact ⟨T', loop _ from_ gk_F (by omega) (by unfold gk_F; omega), r2⟩
end LKP
