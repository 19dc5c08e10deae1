/-! THE PURE PART: the class's numerals are the reference's -/
theorem np_ok_iff : ∀ (d : List Nat) (dot : Bool), np_ok dot d = true ↔ (∀ c ∈ d, nl_d c = true) ∧ d.countP nl_dot + (if dot = true then 1 else 0) ≤ 1
  | [], dot => by
    unfold np_ok
    refine ⟨fun _ => ⟨fun c hc => absurd hc List.not_mem_nil, ?_⟩, fun _ => rfl⟩
    rw [List.countP_nil]
    split <;> decide
  | c :: t, dot => by
    unfold np_ok
    rw [List.countP_cons]
    by_cases e : nl_dig c = true
    · have e2 : nl_dot c = false := by
        unfold nl_dot
        simp [nl_digdot e]
      have e3 : nl_d c = true := by
        unfold nl_d
        unfold nl_dig at e
        rw [e, Bool.or_true]
      rw [if_pos e, np_ok_iff t dot, e2]
      simp only [List.mem_cons, forall_eq_or_imp, e3, true_and, Bool.false_eq_true, if_false, Nat.add_zero]
    · rw [if_neg e]
      by_cases e2 : c = 46 ∧ dot = false
      · rw [if_pos e2, np_ok_iff t true, e2.1, e2.2]
        have e3 : nl_d 46 = true := rfl
        have e4 : nl_dot 46 = true := rfl
        simp only [List.mem_cons, forall_eq_or_imp, e3, e4, true_and, Bool.false_eq_true, if_false, if_true, Nat.add_zero]
      · rw [if_neg e2]
        constructor
        · intro z
          cases z
        · intro z
          exfalso
          have z1 := z.1 c List.mem_cons_self
          by_cases w : c = 46
          · have w2 : dot = true := by
              cases dot
              · exact absurd ⟨w, rfl⟩ e2
              · rfl
            have z2 := z.2
            have : nl_dot c = true := by rw [w]; rfl
            rw [this, w2, if_pos rfl] at z2
            omega
          · unfold nl_d at z1
            unfold nl_dig at e
            simp only [Bool.or_eq_true, beq_iff_eq] at z1
            rcases z1 with z1 | z1
            · exact w z1
            · exact e z1
theorem np_cnt (t : List Nat) : ∀ s : Int × Nat × Nat × Bool, (t.foldl np_st s).2.1 = s.2.1 + t.countP nl_dig := by
  induction t with
  | nil => intro s; rfl
  | cons c t ih =>
    intro s
    rw [List.foldl_cons, List.countP_cons, ih]
    unfold np_st
    by_cases e : nl_dig c = true
    · rw [if_pos e, if_pos e]
      dsimp only
      omega
    · rw [if_neg e, if_neg e]
      rfl
theorem np_eq (t : List Nat) : ∀ (w : Int) (dg b : Nat) (dot : Bool), (∀ c ∈ t, nl_d c = true) → dg + t.countP nl_dig ≤ 15 → (dot = false → b = 0) → (t.foldl np_st (w, dg, b, dot)).1 = (t.foldl nl_step (w, b, dot)).1 ∧ (if (t.foldl np_st (w, dg, b, dot)).2.2.2 = true then (t.foldl np_st (w, dg, b, dot)).2.2.1 else 0) = (t.foldl nl_step (w, b, dot)).2.1 := by
  induction t with
  | nil =>
    intro w dg b dot _ _ h3
    refine ⟨rfl, ?_⟩
    show (if dot = true then b else 0) = b
    cases dot
    · rw [if_neg (by decide), h3 rfl]
    · rw [if_pos rfl]
  | cons c t ih =>
    intro w dg b dot h1 h2 h3
    rw [List.countP_cons] at h2
    rw [List.foldl_cons, List.foldl_cons]
    have hc := h1 c List.mem_cons_self
    have ht : ∀ c ∈ t, nl_d c = true := fun x hx => h1 x (List.mem_cons_of_mem _ hx)
    by_cases e : nl_dig c = true
    · have e2 : nl_dot c = false := by
        unfold nl_dot
        simp [nl_digdot e]
      rw [if_pos e] at h2
      have a : np_st (w, dg, b, dot) c = (10 * w + (c : Int) - 48, dg + 1, if dot = true then b + 1 else b, dot) := by
        unfold np_st
        dsimp only
        rw [if_pos e, if_pos (by omega)]
      have a2 : nl_step (w, b, dot) c = (10 * w + (c : Int) - 48, if dot = true then b + 1 else b, dot) := by
        unfold nl_step
        dsimp only
        rw [if_pos e, e2, Bool.or_false]
        refine Prod.ext ?_ (Prod.ext ?_ rfl)
        · show w * 10 + ((c : Int) - 48) = _
          omega
        · show b + (if dot = true then 1 else 0) = _
          split <;> rfl
      rw [a, a2]
      refine ih _ _ _ _ ht (by omega) fun z => ?_
      rw [z, if_neg (by decide)]
      exact h3 z
    · have e2 : c = 46 := by
        unfold nl_d at hc
        unfold nl_dig at e
        simp only [Bool.or_eq_true, beq_iff_eq] at hc
        rcases hc with q | q
        · exact q
        · exact absurd q e
      rw [if_neg e] at h2
      have a : np_st (w, dg, b, dot) c = (w, dg, b, true) := by
        unfold np_st
        rw [if_neg e]
      have a2 : nl_step (w, b, dot) c = (w, b, true) := by
        unfold nl_step
        rw [if_neg e, e2]
        show (w, b, dot || true) = _
        rw [Bool.or_true]
      rw [a, a2]
      exact ih _ _ _ _ ht (by omega) fun z => absurd z (by decide)
/-- the parts of a numeral -/
def np_m2 (mi : Bool) : List Nat := if mi = true then [45] else []
def np_p2 (p : Bool) : List Nat := if p = true then [37] else []
theorem nl_s32 {c : Nat} (h : nl_s c = true) : c = 32 := by
  unfold nl_s at h
  exact beq_iff_eq.mp h
theorem nl_dW (f : Nat → Bool) : ∀ (a b : List Nat), (∀ c ∈ a, f c = true) → (a ++ b).dropWhile f = b.dropWhile f ∧ (a ++ b).takeWhile f = a ++ b.takeWhile f
  | [], b, _ => ⟨rfl, rfl⟩
  | c :: a, b, h => by
    obtain ⟨h1, h2⟩ := nl_dW f a b fun x hx => h x (List.mem_cons_of_mem _ hx)
    have hc := h c List.mem_cons_self
    rw [List.cons_append, List.dropWhile_cons, List.takeWhile_cons, if_pos hc, if_pos hc, h1, h2]
    exact ⟨rfl, rfl⟩
theorem nl_dN (f : Nat → Bool) (b : List Nat) (h : ∀ c t, b = c :: t → f c = false) : b.dropWhile f = b ∧ b.takeWhile f = [] := by
  cases b with
  | nil => exact ⟨rfl, rfl⟩
  | cons c t =>
    have := h c t rfl
    rw [List.dropWhile_cons, List.takeWhile_cons, if_neg (by rw [this]; decide), if_neg (by rw [this]; decide)]
    exact ⟨rfl, rfl⟩
section NPD
variable {sp d s2 : List Nat} {mi p : Bool}
theorem np_class (h1 : ∀ c ∈ sp, nl_s c = true) (h2 : ∀ c ∈ s2, nl_s c = true) (hd : ∀ c ∈ d, nl_d c = true) (hn : d ≠ []) :
    nl_core (sp ++ (np_m2 mi ++ (d ++ (np_p2 p ++ s2)))) = d ∧ (nl_off 37 ((nl_off 45 ((sp ++ (np_m2 mi ++ (d ++ (np_p2 p ++ s2)))).dropWhile nl_s)).dropWhile nl_d)).all nl_s = true := by
  obtain ⟨c, t, rfl⟩ : ∃ c t, d = c :: t := by
    cases d with
    | nil => exact absurd rfl hn
    | cons c t => exact ⟨c, t, rfl⟩
  have hc := hd c List.mem_cons_self
  have hc2 : c ≠ 32 ∧ c ≠ 45 := ⟨fun z => by rw [z] at hc; exact absurd hc (by decide), fun z => by rw [z] at hc; exact absurd hc (by decide)⟩
  have e1 : (sp ++ (np_m2 mi ++ (c :: t ++ (np_p2 p ++ s2)))).dropWhile nl_s = np_m2 mi ++ (c :: t ++ (np_p2 p ++ s2)) := by
    rw [(nl_dW nl_s sp _ h1).1]
    refine (nl_dN _ _ fun x y e => ?_).1
    unfold np_m2 at e
    cases mi
    · injection e with e _
      rw [← e]
      unfold nl_s
      simp [hc2.1]
    · injection e with e _
      rw [← e]
      rfl
  have e2 : nl_off 45 (np_m2 mi ++ (c :: t ++ (np_p2 p ++ s2))) = c :: t ++ (np_p2 p ++ s2) := by
    unfold np_m2
    cases mi
    · show nl_off 45 (c :: (t ++ (np_p2 p ++ s2))) = _
      unfold nl_off
      dsimp only
      rw [if_neg hc2.2]
      rfl
    · show nl_off 45 (45 :: (c :: t ++ (np_p2 p ++ s2))) = _
      unfold nl_off
      dsimp only
      rw [if_pos rfl]
  obtain ⟨k1, k2⟩ := nl_dW nl_d (c :: t) (np_p2 p ++ s2) hd
  have k3 : (np_p2 p ++ s2).dropWhile nl_d = np_p2 p ++ s2 ∧ (np_p2 p ++ s2).takeWhile nl_d = [] := by
    refine nl_dN _ _ fun x y e => ?_
    unfold np_p2 at e
    cases p
    · have : x ∈ s2 := by
        have e' : s2 = x :: y := e
        rw [e']
        exact List.mem_cons_self
      rw [nl_s32 (h2 x this)]
      rfl
    · injection e with e _
      rw [← e]
      rfl
  unfold nl_core
  rw [e1, e2, k1, k2, k3.1, k3.2, List.append_nil]
  refine ⟨rfl, ?_⟩
  have hall : s2.all nl_s = true := List.all_eq_true.mpr h2
  unfold np_p2
  cases p
  · show (nl_off 37 s2).all nl_s = true
    unfold nl_off
    split
    · rfl
    · rename_i x y
      have := nl_s32 (h2 x List.mem_cons_self)
      rw [if_neg (by omega)]
      exact hall
  · show (nl_off 37 (37 :: s2)).all nl_s = true
    unfold nl_off
    dsimp only
    rw [if_pos rfl]
    exact hall
theorem np_model (h1 : ∀ c ∈ sp, nl_s c = true) (h2 : ∀ c ∈ s2, nl_s c = true) (hd : ∀ c ∈ d, nl_d c = true) (hn : d ≠ []) :
    (((sp ++ (np_m2 mi ++ (d ++ (np_p2 p ++ s2)))).dropWhile nl_s).reverse.dropWhile nl_s).reverse = np_m2 mi ++ (d ++ np_p2 p) ∧ np_m (np_m2 mi ++ (d ++ np_p2 p)) = mi ∧ nl_off 45 (np_m2 mi ++ (d ++ np_p2 p)) = d ++ np_p2 p ∧ np_p (d ++ np_p2 p) = p ∧ np_d (d ++ np_p2 p) = d := by
  obtain ⟨c, t, hct⟩ : ∃ c t, d = c :: t := by
    cases d with
    | nil => exact absurd rfl hn
    | cons c t => exact ⟨c, t, rfl⟩
  obtain ⟨w, x, hwx⟩ : ∃ w x, d = w ++ [x] := by
    rcases List.eq_nil_or_concat d with e | ⟨w, x, e⟩
    · exact absurd e hn
    · exact ⟨w, x, by rw [e, List.concat_eq_append]⟩
  have hc := hd c (by rw [hct]; exact List.mem_cons_self)
  have hx := hd x (by rw [hwx]; simp)
  have hc2 : c ≠ 32 ∧ c ≠ 45 := ⟨fun z => by rw [z] at hc; exact absurd hc (by decide), fun z => by rw [z] at hc; exact absurd hc (by decide)⟩
  have hx2 : x ≠ 32 ∧ x ≠ 37 := ⟨fun z => by rw [z] at hx; exact absurd hx (by decide), fun z => by rw [z] at hx; exact absurd hx (by decide)⟩
  have e1 : (sp ++ (np_m2 mi ++ (d ++ (np_p2 p ++ s2)))).dropWhile nl_s = np_m2 mi ++ (d ++ (np_p2 p ++ s2)) := by
    rw [(nl_dW nl_s sp _ h1).1]
    refine (nl_dN _ _ fun a y e => ?_).1
    rw [hct] at e
    unfold np_m2 at e
    cases mi
    · injection e with e _
      rw [← e]
      unfold nl_s
      simp [hc2.1]
    · injection e with e _
      rw [← e]
      rfl
  have e2 : ((np_m2 mi ++ (d ++ (np_p2 p ++ s2))).reverse.dropWhile nl_s).reverse = np_m2 mi ++ (d ++ np_p2 p) := by
    have : (np_m2 mi ++ (d ++ (np_p2 p ++ s2))).reverse = s2.reverse ++ (np_m2 mi ++ (d ++ np_p2 p)).reverse := by simp
    rw [this, (nl_dW nl_s s2.reverse _ fun a ha => h2 a (List.mem_reverse.mp ha)).1]
    have z : ((np_m2 mi ++ (d ++ np_p2 p)).reverse).dropWhile nl_s = (np_m2 mi ++ (d ++ np_p2 p)).reverse := by
      refine (nl_dN _ _ fun a y e => ?_).1
      rw [hwx] at e
      unfold np_p2 at e
      cases p
      · have e' : x :: (w.reverse ++ (np_m2 mi).reverse) = a :: y := by rw [← e]; simp
        injection e' with e' _
        rw [← e']
        unfold nl_s
        simp [hx2.1]
      · have e' : 37 :: (x :: (w.reverse ++ (np_m2 mi).reverse)) = a :: y := by rw [← e]; simp
        injection e' with e' _
        rw [← e']
        rfl
    rw [z, List.reverse_reverse]
  rw [e1, e2]
  refine ⟨rfl, ?_, ?_, ?_, ?_⟩
  · unfold np_m2 np_m
    rw [hct]
    cases mi
    · show (c == 45) = false
      simp [hc2.2]
    · rfl
  · unfold np_m2
    rw [hct]
    cases mi
    · show nl_off 45 (c :: (t ++ np_p2 p)) = _
      unfold nl_off
      dsimp only
      rw [if_neg hc2.2]
      rfl
    · show nl_off 45 (45 :: (c :: t ++ np_p2 p)) = _
      unfold nl_off
      dsimp only
      rw [if_pos rfl]
  · unfold np_p np_p2
    rw [hwx]
    cases p
    · simp [hx2.2]
    · simp
  · unfold np_d np_p np_p2
    cases p
    · rw [hwx]
      simp [hx2.2]
    · simp
theorem nl_fskip (l : List Nat) (h : ∀ c ∈ l, nl_dig c = false ∧ nl_dot c = false) : ∀ s, l.foldl nl_step s = s := by
  induction l with
  | nil => intro s; rfl
  | cons c l ih =>
    intro s
    obtain ⟨a, b⟩ := h c List.mem_cons_self
    rw [List.foldl_cons, ih fun x hx => h x (List.mem_cons_of_mem _ hx)]
    unfold nl_step
    rw [a, b, if_neg (by decide), Bool.or_false]
theorem np_value (h1 : ∀ c ∈ sp, nl_s c = true) (h2 : ∀ c ∈ s2, nl_s c = true) (hd : ∀ c ∈ d, nl_d c = true) :
    nl_fold (sp ++ (np_m2 mi ++ (d ++ (np_p2 p ++ s2)))) = nl_fold d ∧ (sp ++ (np_m2 mi ++ (d ++ (np_p2 p ++ s2)))).contains 37 = p ∧ (sp ++ (np_m2 mi ++ (d ++ (np_p2 p ++ s2)))).contains 45 = mi := by
  have q1 : ∀ c ∈ sp, nl_dig c = false ∧ nl_dot c = false := fun c hc => by rw [nl_s32 (h1 c hc)]; exact ⟨rfl, rfl⟩
  have q2 : ∀ c ∈ s2, nl_dig c = false ∧ nl_dot c = false := fun c hc => by rw [nl_s32 (h2 c hc)]; exact ⟨rfl, rfl⟩
  have q3 : ∀ c ∈ np_m2 mi, nl_dig c = false ∧ nl_dot c = false := fun c hc => by
    unfold np_m2 at hc
    cases mi
    · exact absurd hc List.not_mem_nil
    · rw [List.mem_singleton.mp hc]; exact ⟨rfl, rfl⟩
  have q4 : ∀ c ∈ np_p2 p, nl_dig c = false ∧ nl_dot c = false := fun c hc => by
    unfold np_p2 at hc
    cases p
    · exact absurd hc List.not_mem_nil
    · rw [List.mem_singleton.mp hc]; exact ⟨rfl, rfl⟩
  have n1 : ∀ x, x ≠ 32 → x ∉ sp := fun x hx z => hx (nl_s32 (h1 x z))
  have n2 : ∀ x, x ≠ 32 → x ∉ s2 := fun x hx z => hx (nl_s32 (h2 x z))
  have n3 : ∀ x, nl_d x = false → x ∉ d := fun x hx z => by
    have := hd x z
    rw [hx] at this
    cases this
  refine ⟨?_, ?_, ?_⟩
  · unfold nl_fold
    rw [List.foldl_append, List.foldl_append, List.foldl_append, List.foldl_append, nl_fskip _ q1, nl_fskip _ q3, nl_fskip _ q4, nl_fskip _ q2]
  · have m1 := n1 37 (by decide)
    have m2 := n2 37 (by decide)
    have m3 := n3 37 (by decide)
    unfold np_m2 np_p2
    cases mi <;> cases p <;> simp [m1, m2, m3]
  · have m1 := n1 45 (by decide)
    have m2 := n2 45 (by decide)
    have m3 := n3 45 (by decide)
    unfold np_m2 np_p2
    cases mi <;> cases p <;> simp [m1, m2, m3]
end NPD
/-- what the reference takes of a text -/
def np_u (l : List Nat) : List Nat := ((l.dropWhile nl_s).reverse.dropWhile nl_s).reverse
theorem np_dec (l : List Nat) : l = l.takeWhile nl_s ++ (np_m2 (np_m (np_u l)) ++ (np_d (nl_off 45 (np_u l)) ++ (np_p2 (np_p (nl_off 45 (np_u l))) ++ ((l.dropWhile nl_s).reverse.takeWhile nl_s).reverse))) := by
  have e1 : l.dropWhile nl_s = np_u l ++ ((l.dropWhile nl_s).reverse.takeWhile nl_s).reverse := by
    unfold np_u
    rw [← List.reverse_append, List.takeWhile_append_dropWhile, List.reverse_reverse]
  have e2 : ∀ u : List Nat, u = np_m2 (np_m u) ++ nl_off 45 u := by
    intro u
    cases u with
    | nil => rfl
    | cons c t =>
      unfold np_m2 np_m nl_off
      dsimp only
      by_cases z : c = 45
      · rw [if_pos z, if_pos (by rw [z]; rfl), z]
        rfl
      · rw [if_neg z, if_neg (by simp [z])]
        rfl
  have e3 : ∀ u : List Nat, u = np_d u ++ np_p2 (np_p u) := by
    intro u
    unfold np_d np_p2
    by_cases z : np_p u = true
    · rw [if_pos z, if_pos z]
      unfold np_p at z
      rcases List.eq_nil_or_concat u with e | ⟨w, x, e⟩
      · rw [e] at z
        cases z
      · rw [List.concat_eq_append] at e
        rw [e] at z ⊢
        have : x = 37 := by simpa using z
        rw [this]
        simp
    · rw [if_neg z, if_neg z, List.append_nil]
  have e4 : np_u l = np_m2 (np_m (np_u l)) ++ (np_d (nl_off 45 (np_u l)) ++ np_p2 (np_p (nl_off 45 (np_u l)))) := by
    rw [← e3]
    exact e2 _
  have e5 : np_m2 (np_m (np_u l)) ++ (np_d (nl_off 45 (np_u l)) ++ (np_p2 (np_p (nl_off 45 (np_u l))) ++ ((l.dropWhile nl_s).reverse.takeWhile nl_s).reverse)) = l.dropWhile nl_s := by
    rw [← List.append_assoc (np_d _), ← List.append_assoc (np_m2 _), ← e4]
    exact e1.symm
  rw [e5]
  exact List.takeWhile_append_dropWhile.symm
theorem nl_takeAll (f : Nat → Bool) : ∀ (l : List Nat), ∀ c ∈ l.takeWhile f, f c = true
  | [], c, h => absurd h List.not_mem_nil
  | x :: l, c, h => by
    rw [List.takeWhile_cons] at h
    by_cases e : f x = true
    · rw [if_pos e] at h
      rcases List.mem_cons.mp h with q | q
      · rw [q]; exact e
      · exact nl_takeAll f l c q
    · rw [if_neg e] at h
      exact absurd h List.not_mem_nil
theorem np_bridge (l : List Nat) : nl_is l = (np_ok false (np_d (nl_off 45 (np_u l))) && (Nat.ble 1 ((np_d (nl_off 45 (np_u l))).countP nl_dig) && Nat.ble ((np_d (nl_off 45 (np_u l))).countP nl_dig) 15)) ∧ (nl_is l = true → nl_fold l = nl_fold (np_d (nl_off 45 (np_u l))) ∧ l.contains 37 = np_p (nl_off 45 (np_u l)) ∧ l.contains 45 = np_m (np_u l)) := by
  have key : ∀ (sp d s2 : List Nat) (mi p : Bool), l = sp ++ (np_m2 mi ++ (d ++ (np_p2 p ++ s2))) → (∀ c ∈ sp, nl_s c = true) → (∀ c ∈ s2, nl_s c = true) → (∀ c ∈ d, nl_d c = true) → d ≠ [] → nl_is l = (np_ok false (np_d (nl_off 45 (np_u l))) && (Nat.ble 1 ((np_d (nl_off 45 (np_u l))).countP nl_dig) && Nat.ble ((np_d (nl_off 45 (np_u l))).countP nl_dig) 15)) ∧ (nl_is l = true → nl_fold l = nl_fold (np_d (nl_off 45 (np_u l))) ∧ l.contains 37 = np_p (nl_off 45 (np_u l)) ∧ l.contains 45 = np_m (np_u l)) := by
    intro sp d s2 mi p e h1 h2 hd hn
    obtain ⟨a1, a2⟩ := np_class (mi := mi) (p := p) h1 h2 hd hn
    obtain ⟨b1, b2, b3, b4, b5⟩ := np_model (mi := mi) (p := p) h1 h2 hd hn
    obtain ⟨c1, c2, c3⟩ := np_value (mi := mi) (p := p) h1 h2 hd
    rw [← e] at a1 a2 b1 c1 c2 c3
    have b1' : np_u l = np_m2 mi ++ (d ++ np_p2 p) := b1
    rw [b1', b2, b3, b4, b5]
    refine ⟨?_, fun _ => ⟨c1, c2, c3⟩⟩
    unfold nl_is
    rw [a1, a2, Bool.and_true]
    have hk : np_ok false d = Nat.ble (d.countP nl_dot) 1 := by
      rw [Bool.eq_iff_iff, np_ok_iff]
      constructor
      · intro z
        exact Nat.ble_eq_true_of_le (by have := z.2; rw [if_neg (by decide)] at this; omega)
      · intro z
        refine ⟨hd, ?_⟩
        have := Nat.le_of_ble_eq_true z
        rw [if_neg (by decide)]
        omega
    rw [hk]
    cases Nat.ble (d.countP nl_dot) 1 <;> cases Nat.ble 1 (d.countP nl_dig) <;> cases Nat.ble (d.countP nl_dig) 15 <;> rfl
  by_cases q : nl_is l = true
  · have q' := q
    unfold nl_is at q'
    simp only [Bool.and_eq_true] at q'
    obtain ⟨⟨⟨q1, q2⟩, q3⟩, q4⟩ := q'
    have q1' := Nat.le_of_ble_eq_true q1
    have hall := List.all_eq_true.mp q4
    refine key (l.takeWhile nl_s) (nl_core l) (nl_off 37 ((nl_off 45 (l.dropWhile nl_s)).dropWhile nl_d)) (np_m (l.dropWhile nl_s)) (np_m2 true == [] || match (nl_off 45 (l.dropWhile nl_s)).dropWhile nl_d with | [] => false | c :: _ => c == 37) ?_ (nl_takeAll _ _) hall (nl_takeAll _ _) (fun z => by rw [z] at q1'; exact absurd q1' (by decide))
    have e2 : ∀ u : List Nat, u = np_m2 (np_m u) ++ nl_off 45 u := by
      intro u
      cases u with
      | nil => rfl
      | cons c t =>
        unfold np_m2 np_m nl_off
        dsimp only
        by_cases z : c = 45
        · rw [if_pos z, if_pos (by rw [z]; rfl), z]
          rfl
        · rw [if_neg z, if_neg (by simp [z])]
          rfl
    have e3 : ∀ u : List Nat, u = np_p2 (np_m2 true == [] || match u with | [] => false | c :: _ => c == 37) ++ nl_off 37 u := by
      intro u
      cases u with
      | nil => rfl
      | cons c t =>
        unfold np_p2 nl_off
        dsimp only
        by_cases z : c = 37
        · rw [if_pos z, if_pos (by rw [z]; rfl), z]
          rfl
        · rw [if_neg z, if_neg (by
            have : (np_m2 true == []) = false := rfl
            rw [this]
            simp [z])]
          rfl
    rw [← e3]
    unfold nl_core
    rw [List.takeWhile_append_dropWhile, ← e2, List.takeWhile_append_dropWhile]
  · by_cases q2 : (np_ok false (np_d (nl_off 45 (np_u l))) && (Nat.ble 1 ((np_d (nl_off 45 (np_u l))).countP nl_dig) && Nat.ble ((np_d (nl_off 45 (np_u l))).countP nl_dig) 15)) = true
    · simp only [Bool.and_eq_true] at q2
      obtain ⟨q3, q4, q5⟩ := q2
      have q4' := Nat.le_of_ble_eq_true q4
      exact key _ _ _ _ _ (np_dec l) (nl_takeAll _ _) (fun c hc => nl_takeAll _ _ c (List.mem_reverse.mp hc)) ((np_ok_iff _ _).mp q3).1 (fun z => by rw [z] at q4'; exact absurd q4' (by decide))
    · refine ⟨?_, fun z => absurd z q⟩
      rw [Bool.eq_false_iff.mpr q, Bool.eq_false_iff.mpr q2]
section MN
variable {h : gk_H} {S : gv_S} {i o : Nat} {l : List Nat}
theorem m_isNum (q : m_src h S i o l) : f_M_isNumeral (some 30) (some i) (gI o) (gI l.length) (gv_ov h S) = some (gB (nl_is l), gv_ov h (if nl_is l = true then gv_uD S 30 16 (nl_val l) else S)) := by
  unfold f_M_isNumeral
  have hl := q.2.2.2
  have e1 := mn_sp q l [] gk_F rfl (by unfold gk_F; omega)
  rw [List.length_nil, Nat.add_zero] at e1
  rw [gI_add, gk_let_eq, e1, Nat.zero_add]
  have hdec : l = l.takeWhile nl_s ++ ((l.dropWhile nl_s).reverse.reverse ++ []) := by rw [List.reverse_reverse, List.append_nil, List.takeWhile_append_dropWhile]
  have htk := gp_takelen nl_s l
  have e2 := mn_tr q _ _ _ gk_F hdec (by rw [List.length_reverse]; unfold gk_F; omega)
  rw [List.length_reverse, show (l.takeWhile nl_s).length + (l.dropWhile nl_s).length = l.length from by omega] at e2
  rw [e2]
  have hdec2 : l = l.takeWhile nl_s ++ (np_u l ++ ((l.dropWhile nl_s).reverse.takeWhile nl_s).reverse) := by
    unfold np_u
    rw [← List.reverse_append, List.takeWhile_append_dropWhile, List.reverse_reverse, List.takeWhile_append_dropWhile]
  have hul : ((l.dropWhile nl_s).reverse.dropWhile nl_s).length = (np_u l).length := by unfold np_u; rw [List.length_reverse]
  have hul2 := congrArg List.length hdec2
  rw [List.length_append, List.length_append] at hul2
  rw [hul, mn_mid q _ _ _ hdec2]
  obtain ⟨b1, b2⟩ := np_bridge l
  have hdec3 := np_dec l
  have hp : (l.takeWhile nl_s ++ np_m2 (np_m (np_u l))).length = (l.takeWhile nl_s).length + (if np_m (np_u l) = true then 1 else 0) := by
    rw [List.length_append]
    unfold np_m2
    split <;> rfl
  have hlen3 := congrArg List.length hdec3
  simp only [List.length_append] at hlen3
  have e3 := mn_run q (np_m (np_u l)) (np_p (nl_off 45 (np_u l))) (np_d (nl_off 45 (np_u l))) (l.takeWhile nl_s ++ np_m2 (np_m (np_u l))) (np_p2 (np_p (nl_off 45 (np_u l))) ++ ((l.dropWhile nl_s).reverse.takeWhile nl_s).reverse) gk_F (0, 0, 0, false) (by rw [List.append_assoc]; exact hdec3) (by unfold gk_F; omega) (Int.le_refl _) (by decide) (Nat.le_refl _) (by dsimp only; omega) (fun _ => rfl)
  rw [hp] at e3
  have e3' : f_M_isNumeral_b143 gk_F (some 30) (some i) (gI (o + ((l.takeWhile nl_s).length + (if np_m (np_u l) = true then 1 else 0)))) (gI (o + ((l.takeWhile nl_s).length + (if np_m (np_u l) = true then 1 else 0) + (np_d (nl_off 45 (np_u l))).length))) (gB (np_m (np_u l))) (gB (np_p (nl_off 45 (np_u l)))) (gJ 0) (gI 0) (gN (-1)) (gv_ov h S) = _ := e3
  rw [e3', b1]
  by_cases k : np_ok false (np_d (nl_off 45 (np_u l))) = true
  · rw [if_pos k, k, Bool.true_and]
    unfold np_fin
    have hc := np_cnt (np_d (nl_off 45 (np_u l))) (0, 0, 0, false)
    dsimp only at hc
    rw [hc, Nat.zero_add]
    by_cases k2 : 1 ≤ (np_d (nl_off 45 (np_u l))).countP nl_dig ∧ (np_d (nl_off 45 (np_u l))).countP nl_dig ≤ 15
    · have k3 : (Nat.ble 1 ((np_d (nl_off 45 (np_u l))).countP nl_dig) && Nat.ble ((np_d (nl_off 45 (np_u l))).countP nl_dig) 15) = true := by
        rw [Nat.ble_eq_true_of_le k2.1, Nat.ble_eq_true_of_le k2.2]
        rfl
      rw [k, k3] at b1
      obtain ⟨v1, v2, v3⟩ := b2 b1
      obtain ⟨n1, n2⟩ := np_eq (np_d (nl_off 45 (np_u l))) 0 0 0 false ((np_ok_iff _ _).mp k).1 (by omega) (fun _ => rfl)
      rw [if_pos k2, k3, if_pos rfl]
      unfold nl_val
      rw [v1, v2, v3, n1, n2]
      rfl
    · have k3 : (Nat.ble 1 ((np_d (nl_off 45 (np_u l))).countP nl_dig) && Nat.ble ((np_d (nl_off 45 (np_u l))).countP nl_dig) 15) = false := by
        rw [Bool.eq_false_iff]
        intro z
        simp only [Bool.and_eq_true] at z
        exact k2 ⟨Nat.le_of_ble_eq_true z.1, Nat.le_of_ble_eq_true z.2⟩
      rw [if_neg k2, k3]
      rfl
  · rw [if_neg k, Bool.eq_false_iff.mpr k, Bool.false_and]
    rfl
end MN
