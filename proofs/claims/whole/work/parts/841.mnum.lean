/-! THE PURE PART: the reference's numerals, numbers wanted -/
theorem gI_pm1 (n : Nat) : gI (n + 1) + gN (-1) = gI n := by
  rw [gI_N, gN_add, gI_N]
  congr 1
  omega
theorem mt_loop (e : Nat) (he : e ≤ 22) (h : gk_H) : ∀ (fu k : Nat), k ≤ e → e - k < fu → f_M_tens_b4 fu (gI e) (fd_t k) (gI k) h = some (fd_t e, h) := by
  intro fu
  induction fu with
  | zero => intro k _ hf; omega
  | succ fu ih =>
    intro k hk hf
    rw [f_M_tens_b4]
    dsimp only
    rw [ite_le _ _ _ _ (by omega) (by omega)]
    by_cases w : e ≤ k
    · rw [if_pos w, show e = k from by omega]
    · have hn : fd_n (FP.dmul (fd_t k) 0x4024000000000000) := (fd_tn (k + 1) (by omega)).1.n
      rw [if_neg w, fd_dop hn, gk_let_eq, gI_1, gI_add]
      exact ih (k + 1) (by omega) (by omega)
theorem m_tens (e : Nat) (he : e ≤ 22) (h : gk_H) : f_M_tens (gI e) h = some (fd_t e, h) := mt_loop e he h gk_F 0 (Nat.zero_le _) (by unfold gk_F; omega)
theorem m_isDigit (c : Nat) (hc : c < 128) (h : gk_H) : f_M_isDigit (gI c) h = some (gB (nl_dig c), h) := by
  unfold f_M_isDigit f_M_isDigit_b16 f_M_isDigit_b17
  rw [gI_lit 48, gI_lit 57, ite_lt _ _ _ _ (by omega) (by decide), ite_lt _ _ _ _ (by decide) (by omega), nb0, nb1]
  have hd : nl_dig c = true ↔ 48 ≤ c ∧ c ≤ 57 := by
    unfold nl_dig
    simp [Bool.and_eq_true]
  by_cases e2 : c < 48
  · rw [if_pos e2, show nl_dig c = false from Bool.eq_false_iff.mpr fun z => by have := hd.mp z; omega]
    rfl
  · rw [if_neg e2]
    by_cases e3 : 57 < c
    · rw [if_pos e3, show nl_dig c = false from Bool.eq_false_iff.mpr fun z => by have := hd.mp z; omega]
      rfl
    · rw [if_neg e3, hd.mpr (by omega)]
      rfl
/-- bytes of an array of the reference, from o on -/
def m_src (h : gk_H) (S : gv_S) (i o : Nat) (l : List Nat) : Prop := (∀ k, k < l.length → ∀ {β : Type} (K : Int32 → Option β), ((gk_ald (gv_ov h S) (some i) 3 (gI (o + k))).bind gk_asI).bind K = K (gI (l.getD k 0))) ∧ (∀ c ∈ l, c < 128) ∧ o + l.length ≤ 100000 ∧ l.length ≤ 1000
def np_m (u : List Nat) : Bool := match u with
  | [] => false
  | c :: _ => c == 45
def np_p (u : List Nat) : Bool := u.getLast? == some 37
def np_d (u : List Nat) : List Nat := if np_p u = true then u.dropLast else u
def np_ok : Bool → List Nat → Bool
  | _, [] => true
  | dot, c :: t => if nl_dig c = true then np_ok dot t else if c = 46 ∧ dot = false then np_ok true t else false
/-- what the reference reads: the digits, how many, how many behind the dot, whether there was one -/
def np_st (s : Int × Nat × Nat × Bool) (c : Nat) : Int × Nat × Nat × Bool :=
  if nl_dig c = true then (if s.2.1 + 1 < 16 then 10 * s.1 + (c : Int) - 48 else s.1, s.2.1 + 1, if s.2.2.2 = true then s.2.2.1 + 1 else s.2.2.1, s.2.2.2) else (s.1, s.2.1, s.2.2.1, true)
section MN
variable {h : gk_H} {S : gv_S} {i o : Nat} {l : List Nat}
theorem m_src.at (q : m_src h S i o l) (p t : List Nat) (c : Nat) (e : l = p ++ c :: t) : c < 128 ∧ p.length < l.length ∧ ∀ {β : Type} (K : Int32 → Option β), ((gk_ald (gv_ov h S) (some i) 3 (gI (o + p.length))).bind gk_asI).bind K = K (gI c) := by
  have hk : p.length < l.length := by rw [e]; simp
  refine ⟨q.2.1 c (by rw [e]; simp), hk, fun K => ?_⟩
  rw [q.1 _ hk K, e, gp_mid]
theorem mn_sp (q : m_src h S i o l) : ∀ (t p : List Nat) (fu : Nat), l = p ++ t → t.length < fu → f_M_isNumeral_b8 fu (some 30) (some i) (gI (o + p.length)) (gI (o + l.length)) (gv_ov h S) = f_M_isNumeral_b30 gk_F (some 30) (some i) (gI (o + (p.length + (t.takeWhile nl_s).length))) (gI (o + l.length)) (gv_ov h S) := by
  have q3 := q.2.2.1
  intro t
  induction t with
  | nil =>
    intro p fu e hf
    obtain ⟨fu, rfl⟩ : ∃ f, fu = f + 1 := ⟨fu - 1, by omega⟩
    have hl : l.length = p.length := by rw [e]; simp
    rw [f_M_isNumeral_b8]
    dsimp only
    rw [ite_le _ _ _ _ (by omega) (by omega), if_pos (by omega)]
    rfl
  | cons c t ih =>
    intro p fu e hf
    obtain ⟨fu, rfl⟩ : ∃ f, fu = f + 1 := ⟨fu - 1, by omega⟩
    obtain ⟨c1, c2, c3⟩ := q.at p t c e
    rw [List.length_cons] at hf
    rw [f_M_isNumeral_b8]
    dsimp only
    rw [ite_le _ _ _ _ (by omega) (by omega), if_neg (by omega), c3, gI_lit 32, ite_eq _ _ _ _ (by omega) (by decide), List.takeWhile_cons]
    by_cases z : c = 32
    · have := ih (p ++ [c]) fu (by rw [← gp_app1]; exact e) (by omega)
      rw [List.length_append, List.length_singleton] at this
      rw [if_pos z, gk_let_eq, gI_1, gI_add, Nat.add_assoc, this, if_pos (by rw [z]; rfl), List.length_cons]
      congr 2
      omega
    · rw [if_neg z, if_neg (by unfold nl_s; simp [z])]
      rfl
theorem mn_tr (q : m_src h S i o l) : ∀ (r p z : List Nat) (fu : Nat), l = p ++ (r.reverse ++ z) → r.length < fu → f_M_isNumeral_b30 fu (some 30) (some i) (gI (o + p.length)) (gI (o + (p.length + r.length))) (gv_ov h S) = f_M_isNumeral_b54 (some 30) (some i) (gI (o + p.length)) (gI (o + (p.length + (r.dropWhile nl_s).length))) (gv_ov h S) := by
  have q3 := q.2.2.1
  intro r
  induction r with
  | nil =>
    intro p z fu e hf
    obtain ⟨fu, rfl⟩ : ∃ f, fu = f + 1 := ⟨fu - 1, by omega⟩
    have hl : l.length = p.length + z.length := by rw [e]; simp
    rw [f_M_isNumeral_b30]
    dsimp only
    rw [ite_le _ _ _ _ (by simp; omega) (by omega), if_pos (by simp)]
    rfl
  | cons c r ih =>
    intro p z fu e hf
    obtain ⟨fu, rfl⟩ : ∃ f, fu = f + 1 := ⟨fu - 1, by omega⟩
    have hl : l.length = p.length + (r.length + 1 + z.length) := by rw [e]; simp; omega
    have e2 : l = (p ++ r.reverse) ++ c :: z := by rw [e]; simp
    obtain ⟨c1, c2, c3⟩ := q.at _ z c e2
    rw [List.length_append, List.length_reverse] at c3
    rw [List.length_cons] at hf ⊢
    rw [f_M_isNumeral_b30]
    dsimp only
    rw [ite_le _ _ _ _ (by omega) (by omega), if_neg (by omega), gI_1, gI_sub _ _ (by omega), show o + (p.length + (r.length + 1)) - 1 = o + (p.length + r.length) from by omega, c3, gI_lit 32, ite_eq _ _ _ _ (by omega) (by decide), List.dropWhile_cons]
    by_cases w : c = 32
    · have := ih p (c :: z) fu (by rw [e]; simp) (by omega)
      rw [if_pos w, gk_let_eq, gIl_m1', show o + (p.length + (r.length + 1)) = o + (p.length + r.length) + 1 from by omega, gI_pm1, this, if_pos (by rw [w]; rfl)]
    · rw [if_neg w, if_neg (by unfold nl_s; simp [w]), List.length_cons]
theorem mn_mid (q : m_src h S i o l) (p u z : List Nat) (e : l = p ++ (u ++ z)) : f_M_isNumeral_b54 (some 30) (some i) (gI (o + p.length)) (gI (o + (p.length + u.length))) (gv_ov h S) = f_M_isNumeral_b143 gk_F (some 30) (some i) (gI (o + (p.length + (if np_m u = true then 1 else 0)))) (gI (o + (p.length + (if np_m u = true then 1 else 0) + (np_d (nl_off 45 u)).length))) (gB (np_m u)) (gB (np_p (nl_off 45 u))) (gJ 0) (gI 0) (gN (-1)) (gv_ov h S) := by
  have q3 := q.2.2.1
  have hl : l.length = p.length + (u.length + z.length) := by rw [e]; simp
  have b91 : ∀ (p' u' : List Nat) (mi : Bool), l = p' ++ (u' ++ z) → f_M_isNumeral_b91 (some 30) (some i) (gI (o + (p'.length + u'.length))) (gB mi) (gI (o + p'.length)) (gv_ov h S) = f_M_isNumeral_b143 gk_F (some 30) (some i) (gI (o + p'.length)) (gI (o + (p'.length + (np_d u').length))) (gB mi) (gB (np_p u')) (gJ 0) (gI 0) (gN (-1)) (gv_ov h S) := by
    intro p' u' mi e'
    have hl' : l.length = p'.length + (u'.length + z.length) := by rw [e']; simp
    unfold f_M_isNumeral_b91 f_M_isNumeral_b115 f_M_isNumeral_b116 f_M_isNumeral_b132
    rw [ite_le _ _ _ _ (by omega) (by omega)]
    rcases List.eq_nil_or_concat u' with rfl | ⟨w, c, rfl⟩
    · rw [if_pos (by simp)]
      rfl
    · have e2 : l = (p' ++ w) ++ c :: z := by rw [e']; simp
      obtain ⟨c1, c2, c3⟩ := q.at _ z c e2
      rw [List.length_append] at c3
      have hw : (w ++ [c]).length = w.length + 1 := by simp
      rw [List.concat_eq_append, hw] at *
      rw [if_neg (by omega), gI_1, gI_sub _ _ (by omega), show o + (p'.length + (w.length + 1)) - 1 = o + (p'.length + w.length) from by omega, c3, gI_lit 37, ite_eq _ _ _ _ (by omega) (by decide)]
      by_cases y : c = 37
      · have h1 : np_p (w ++ [c]) = true := by unfold np_p; simp [y]
        have h2 : np_d (w ++ [c]) = w := by unfold np_d; rw [if_pos h1]; simp
        rw [if_pos y, h1, h2, if_neg (by decide)]
        rfl
      · have h1 : np_p (w ++ [c]) = false := by unfold np_p; simp [y]
        have h2 : np_d (w ++ [c]) = w ++ [c] := by unfold np_d; rw [if_neg (by rw [h1]; decide)]
        rw [if_neg y, h1, h2, if_pos rfl, List.length_append, List.length_singleton]
        rfl
  unfold f_M_isNumeral_b54 f_M_isNumeral_b74 f_M_isNumeral_b75
  rw [ite_le _ _ _ _ (by omega) (by omega)]
  cases u with
  | nil =>
    rw [if_pos (by simp)]
    exact b91 p [] false e
  | cons c u =>
    obtain ⟨c1, c2, c3⟩ := q.at p (u ++ z) c e
    rw [if_neg (by rw [List.length_cons]; omega), c3, gI_lit 45, ite_eq _ _ _ _ (by omega) (by decide)]
    by_cases y : c = 45
    · have h1 : np_m (c :: u) = true := by unfold np_m; simp [y]
      have h2 : nl_off 45 (c :: u) = u := by unfold nl_off; simp [y]
      rw [if_pos y, h1, h2, if_neg (by decide), gI_1, gI_add]
      have := b91 (p ++ [c]) u true (by rw [e]; simp)
      rw [List.length_append, List.length_singleton, show p.length + 1 + u.length = p.length + (u.length + 1) from by omega] at this
      rw [List.length_cons, Nat.add_assoc]
      exact this
    · have h1 : np_m (c :: u) = false := by unfold np_m; simp [y]
      have h2 : nl_off 45 (c :: u) = c :: u := by unfold nl_off; simp [y]
      rw [if_neg y, h1, h2]
      exact b91 p (c :: u) false e
/-- the end of reading -/
def np_fin (s : Int × Nat × Nat × Bool) (mi pc : Bool) (h : gk_H) (S : gv_S) : Option (Int32 × gk_H) := if 1 ≤ s.2.1 ∧ s.2.1 ≤ 15 then some (gB true, gv_ov h (gv_uD S 30 16 (nl_x2 (nl_x1 (nl_x0 s.1 (if s.2.2.2 = true then s.2.2.1 else 0)) pc) mi))) else some (gB false, gv_ov h S)
theorem mn_fin (s : Int × Nat × Nat × Bool) (mi pc : Bool) (h0 : 0 ≤ s.1) (h1 : s.1 < 9223372036854775808) (hb : s.2.2.1 ≤ s.2.1) (hd : s.2.1 ≤ 1000) : (if gI s.2.1 < gI 1 then f_M_isNumeral_b253 (gv_ov h S) else if gI s.2.1 ≤ gI 15 then (gk_let (FP.l2d (gJ s.1)) fun x1 => if gN (if s.2.2.2 = true then (s.2.2.1 : Int) else -1) ≤ gN 0 then f_M_isNumeral_b275 (some 30) (gB mi) (gB pc) x1 (gv_ov h S) else gk_ca (f_M_tens (gN (if s.2.2.2 = true then (s.2.2.1 : Int) else -1)) (gv_ov h S)) fun x2 h1 => gk_dop (FP.ddiv x1 x2) fun x3 => f_M_isNumeral_b275 (some 30) (gB mi) (gB pc) x3 h1) else f_M_isNumeral_b253 (gv_ov h S)) = np_fin s mi pc h S := by
  obtain ⟨w, dg, b, dot⟩ := s
  dsimp only at h0 h1 hb hd ⊢
  unfold np_fin f_M_isNumeral_b253
  dsimp only
  rw [ite_lt _ _ _ _ (by omega) (by decide), nb0]
  by_cases e1 : dg < 1
  · rw [if_pos e1, if_neg (show ¬ (1 ≤ dg ∧ dg ≤ 15) from by omega)]
    rfl
  · rw [if_neg e1, ite_le _ _ _ _ (by omega) (by decide)]
    by_cases e2 : dg ≤ 15
    · rw [if_pos e2, if_pos (show 1 ≤ dg ∧ dg ≤ 15 from by omega), gk_let_eq]
      obtain ⟨p1, p2, p3, p4⟩ := nl_x_ok w (if dot = true then b else 0) pc mi h0 h1 (by split <;> omega)
      have e288 : ∀ x, x = nl_x1 (nl_x0 w (if dot = true then b else 0)) pc → f_M_isNumeral_b288 (some 30) (gB mi) x (gv_ov h S) = some (gB true, gv_ov h (gv_uD S 30 16 (nl_x2 (nl_x1 (nl_x0 w (if dot = true then b else 0)) pc) mi))) := by
        intro x hx
        subst hx
        unfold f_M_isNumeral_b288 f_M_isNumeral_b303
        rw [ite_B]
        unfold nl_x2 at p3 ⊢
        cases mi
        · simp only [if_false, Bool.false_eq_true, gs_30_16, nb1]
          rfl
        · simp only [if_true, Bool.false_eq_true, gs_30_16, nb1] at p3 ⊢
          rw [fd_dop p3]
          rfl
      have e275 : ∀ x, x = nl_x0 w (if dot = true then b else 0) → f_M_isNumeral_b275 (some 30) (gB mi) (gB pc) x (gv_ov h S) = some (gB true, gv_ov h (gv_uD S 30 16 (nl_x2 (nl_x1 (nl_x0 w (if dot = true then b else 0)) pc) mi))) := by
        intro x hx
        subst hx
        unfold f_M_isNumeral_b275
        rw [ite_B]
        cases pc
        · exact e288 _ rfl
        · have p2' := p2.1
          unfold nl_x1 at p2'
          rw [if_pos rfl] at p2' ⊢
          rw [fd_dop p2']
          exact e288 _ rfl
      rw [nte_le _ _ _ _ (by first | omega | (split <;> omega)) (by first | omega | (split <;> omega)) (by decide) (by decide)]
      by_cases e3 : (if dot = true then (b : Int) else -1) ≤ 0
      · rw [if_pos e3]
        refine e275 _ ?_
        unfold nl_x0
        rw [if_pos]
        split at e3 <;> simp_all
      · have hdt : dot = true := by
          cases dot
          · exact absurd (by simp) e3
          · rfl
        subst hdt
        rw [if_pos rfl] at e3
        simp only [if_true] at p1 e275 ⊢
        rw [if_neg e3, ← gI_N, m_tens _ (by omega), gk_ca_some]
        have hx : nl_x0 w b = FP.ddiv (FP.l2d (gJ w)) (fd_t b) := if_neg (by omega)
        rw [fd_dop (by rw [← hx]; exact p1.1)]
        exact e275 _ hx.symm
    · rw [if_neg e2, if_neg (show ¬ (1 ≤ dg ∧ dg ≤ 15) from by omega)]
      rfl
theorem np_inv (t : List Nat) : ∀ (s : Int × Nat × Nat × Bool), 0 ≤ s.1 → s.1 < 10 ^ (min s.2.1 15) → s.2.2.1 ≤ s.2.1 → 0 ≤ (t.foldl np_st s).1 ∧ (t.foldl np_st s).1 < 10 ^ (min (t.foldl np_st s).2.1 15) ∧ (t.foldl np_st s).2.2.1 ≤ (t.foldl np_st s).2.1 ∧ (t.foldl np_st s).2.1 ≤ s.2.1 + t.length := by
  induction t with
  | nil => intro s h1 h2 h3; exact ⟨h1, h2, h3, Nat.le_add_right _ _⟩
  | cons c t ih =>
    intro s h1 h2 h3
    obtain ⟨w, dg, b, dot⟩ := s
    dsimp only at h1 h2 h3
    rw [List.foldl_cons, List.length_cons]
    by_cases e : nl_dig c = true
    · have hr : 48 ≤ c ∧ c ≤ 57 := by
        unfold nl_dig at e
        simp only [Bool.and_eq_true] at e
        exact ⟨Nat.le_of_ble_eq_true e.1, Nat.le_of_ble_eq_true e.2⟩
      rw [show np_st (w, dg, b, dot) c = (if dg + 1 < 16 then 10 * w + (c : Int) - 48 else w, dg + 1, if dot = true then b + 1 else b, dot) from if_pos e]
      obtain ⟨a1, a2, a3, a4⟩ := ih (if dg + 1 < 16 then 10 * w + (c : Int) - 48 else w, dg + 1, if dot = true then b + 1 else b, dot) (by dsimp only; split <;> omega) (by
        dsimp only
        by_cases z : dg + 1 < 16
        · rw [if_pos z, show min (dg + 1) 15 = min dg 15 + 1 from by omega, Int.pow_succ]
          omega
        · rw [if_neg z, show min (dg + 1) 15 = min dg 15 from by omega]
          exact h2) (by dsimp only; split <;> omega)
      exact ⟨a1, a2, a3, by dsimp only at a4 ⊢; omega⟩
    · rw [show np_st (w, dg, b, dot) c = (w, dg, b, true) from if_neg e]
      obtain ⟨a1, a2, a3, a4⟩ := ih (w, dg, b, true) h1 h2 h3
      exact ⟨a1, a2, a3, by dsimp only at a4 ⊢; omega⟩
theorem mn_run (q : m_src h S i o l) (mi pc : Bool) : ∀ (t p z : List Nat) (fu : Nat) (s : Int × Nat × Nat × Bool), l = p ++ (t ++ z) → t.length < fu → 0 ≤ s.1 → s.1 < 10 ^ (min s.2.1 15) → s.2.2.1 ≤ s.2.1 → s.2.1 + t.length ≤ 1000 → (s.2.2.2 = false → s.2.2.1 = 0) → f_M_isNumeral_b143 fu (some 30) (some i) (gI (o + p.length)) (gI (o + (p.length + t.length))) (gB mi) (gB pc) (gJ s.1) (gI s.2.1) (gN (if s.2.2.2 = true then (s.2.2.1 : Int) else -1)) (gv_ov h S) = if np_ok s.2.2.2 t = true then np_fin (t.foldl np_st s) mi pc h S else some (gB false, gv_ov h S) := by
  have q3 := q.2.2.1
  have h10 : (10 : Int) ^ 15 = 1000000000000000 := by decide
  intro t
  induction t with
  | nil =>
    intro p z fu s e hf h1 h2 h3 h4 h5
    obtain ⟨fu, rfl⟩ : ∃ f, fu = f + 1 := ⟨fu - 1, by omega⟩
    have hl : l.length = p.length + z.length := by rw [e]; simp
    have hp : (10 : Int) ^ (min s.2.1 15) ≤ 10 ^ 15 := by
      have := Nat.pow_le_pow_right (n := 10) (by decide) (show min s.2.1 15 ≤ 15 by omega)
      exact_mod_cast this
    rw [f_M_isNumeral_b143]
    dsimp only
    have hn : np_ok s.2.2.2 [] = true := by unfold np_ok; rfl
    rw [List.length_nil, ite_le _ _ _ _ (by omega) (by omega), if_pos (by omega), if_pos hn]
    rw [List.length_nil] at h4
    exact mn_fin s mi pc h1 (by omega) h3 (by omega)
  | cons c t ih =>
    intro p z fu s e hf h1 h2 h3 h4 h5
    obtain ⟨fu, rfl⟩ : ∃ f, fu = f + 1 := ⟨fu - 1, by omega⟩
    have hl : l.length = p.length + (t.length + 1 + z.length) := by rw [e]; simp; omega
    obtain ⟨c1, c2, c3⟩ := q.at p (t ++ z) c e
    obtain ⟨w, dg, b, dot⟩ := s
    dsimp only at h1 h2 h3 h4 h5 ⊢
    rw [List.length_cons] at hf h4 ⊢
    have hp : (10 : Int) ^ (min dg 15) ≤ 10 ^ 15 := by
      have := Nat.pow_le_pow_right (n := 10) (by decide) (show min dg 15 ≤ 15 by omega)
      exact_mod_cast this
    have go : ∀ s' : Int × Nat × Nat × Bool, np_st (w, dg, b, dot) c = s' → f_M_isNumeral_b143 fu (some 30) (some i) (gI (o + p.length + 1)) (gI (o + (p.length + (t.length + 1)))) (gB mi) (gB pc) (gJ s'.1) (gI s'.2.1) (gN (if s'.2.2.2 = true then (s'.2.2.1 : Int) else -1)) (gv_ov h S) = if np_ok s'.2.2.2 t = true then np_fin (t.foldl np_st s') mi pc h S else some (gB false, gv_ov h S) := by
      intro s' hs'
      obtain ⟨i1, i2, i3, i4⟩ := np_inv [c] (w, dg, b, dot) h1 h2 h3
      rw [List.foldl_cons, List.foldl_nil, hs'] at i1 i2 i3 i4
      have := ih (p ++ [c]) z fu s' (by rw [e]; simp) (by omega) i1 i2 i3 (by simp at i4; omega) (by
        intro hd
        rw [← hs'] at hd ⊢
        unfold np_st at hd ⊢
        dsimp only at hd ⊢
        by_cases y : nl_dig c = true
        · rw [if_pos y] at hd ⊢
          dsimp only at hd ⊢
          rw [hd, if_neg (by decide)]
          exact h5 hd
        · rw [if_neg y] at hd
          cases hd)
      rw [List.length_append, List.length_singleton, show p.length + 1 + t.length = p.length + (t.length + 1) from by omega] at this
      exact this
    rw [f_M_isNumeral_b143]
    dsimp only
    rw [ite_le _ _ _ _ (by omega) (by omega), if_neg (by omega), c3, m_isDigit c c1, gk_ca_some, ite_B]
    unfold np_ok
    by_cases y : nl_dig c = true
    · have hst : np_st (w, dg, b, dot) c = (if dg + 1 < 16 then 10 * w + (c : Int) - 48 else w, dg + 1, if dot = true then b + 1 else b, dot) := by
        unfold np_st
        rw [if_pos y]
      rw [if_pos y, if_pos y, gI_1, gI_add, gk_let_eq, gI_lit 16, ite_le _ _ _ _ (by decide) (by omega), c3, gI_toJ _ (by omega), gJl_10, gJl_48, gJ_mul, gJ_add, gJ_sub]
      have b191 : ∀ w', w' = (if dg + 1 < 16 then 10 * w + (c : Int) - 48 else w) → f_M_isNumeral_b191 (f_M_isNumeral_b143 fu) (some 30) (some i) (gI (o + p.length)) (gI (o + (p.length + (t.length + 1)))) (gB mi) (gB pc) (gI (dg + 1)) (gN (if dot = true then (b : Int) else -1)) (gJ w') (gv_ov h S) = if np_ok dot t = true then np_fin ((c :: t).foldl np_st (w, dg, b, dot)) mi pc h S else some (gB false, gv_ov h S) := by
        intro w' hw'
        have g := go _ hst
        dsimp only at g
        rw [← hw'] at g
        rw [List.foldl_cons, hst, ← hw']
        unfold f_M_isNumeral_b191 f_M_isNumeral_b207 f_M_isNumeral_b234
        rw [gN_0, nte_lt _ _ _ _ (by first | omega | (split <;> omega)) (by first | omega | (split <;> omega)) (by decide) (by decide), gk_let_eq, gk_let_eq, gI_1, gI_add, gI_N 1, gN_add]
        cases dot
        · rw [if_pos (by simp)]
          exact g
        · rw [if_neg (by simp)]
          exact g
      by_cases y2 : 16 ≤ dg + 1
      · rw [if_pos y2]
        exact b191 w (if_neg (by omega)).symm
      · rw [if_neg y2]
        exact b191 _ (if_pos (by omega)).symm
    · have hst : np_st (w, dg, b, dot) c = (w, dg, b, true) := by
        unfold np_st
        rw [if_neg y]
      rw [if_neg y, if_neg y, c3, gI_lit 46, ite_eq _ _ _ _ (by omega) (by decide)]
      unfold f_M_isNumeral_b232 f_M_isNumeral_b234
      rw [nb0, gN_0, nte_le _ _ _ _ (by decide) (by decide) (by first | omega | (split <;> omega)) (by first | omega | (split <;> omega)), gk_let_eq, gI_1, gI_add]
      by_cases y2 : c = 46
      · cases dot
        · have g := go _ hst
          dsimp only at g
          rw [h5 rfl] at g hst ⊢
          rw [if_pos y2, if_neg (by simp), if_pos (show c = 46 ∧ false = false from ⟨y2, rfl⟩), List.foldl_cons, hst]
          exact g
        · rw [if_pos y2, if_pos (by simp), if_neg (show ¬ (c = 46 ∧ true = false) from fun x => by cases x.2)]
          rfl
      · rw [if_neg y2, if_neg (show ¬ (c = 46 ∧ dot = false) from fun x => y2 x.1)]
        rfl
end MN
