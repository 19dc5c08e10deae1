/-! THE PURE PART: the reference's likeness, held against the class's -/
def lkA (op : Bool) (w l : List Nat) (tp pp : Nat) : Bool := lk op (lk_tk (w.drop pp)) (l.drop tp)
def lkB (op : Bool) (w l : List Nat) : Option (Nat × Nat) → Bool
  | none => false
  | some q => decide (q.2 < l.length) && lk_star (lk op (lk_tk (w.drop (q.1 + 1)))) (l.drop (q.2 + 1))
def lkI (w l : List Nat) (tp pp : Nat) : Option (Nat × Nat) → Prop
  | none => True
  | some q => q.1 < w.length ∧ ∃ seg : List Int, lk_tk (w.drop (q.1 + 1)) = seg ++ lk_tk (w.drop pp) ∧ (∀ m ∈ seg, m ≠ -2) ∧ q.2 + seg.length = tp
def lkS (fr : Nat) : Option (Nat × Nat) → Int32
  | none => (-1 : Int32)
  | some q => gI (fr + q.1)
def lkU (w l : List Nat) (pp : Nat) : Option (Nat × Nat) → Nat
  | none => (l.length + 1) * (w.length + 1) + (w.length - pp)
  | some q => (l.length - q.2) * (w.length + 1) + (w.length - pp)
theorem lk_star_at (f : List Nat → Bool) (l : List Nat) (t : Nat) (ht : t ≤ l.length) : lk_star f (l.drop t) = (f (l.drop t) || (decide (t < l.length) && lk_star f (l.drop (t + 1)))) := by
  by_cases z : t < l.length
  · rw [List.drop_eq_getElem_cons z, decide_eq_true z, Bool.true_and]
    rfl
  · rw [List.drop_of_length_le (by omega), decide_eq_false z, Bool.false_and, Bool.or_false]
    rfl
/-- a star's way is a way from any place behind -/
theorem lk_star_mono (f : List Nat → Bool) (l : List Nat) : ∀ (k t : Nat), lk_star f (l.drop (t + k)) = true → lk_star f (l.drop t) = true
  | 0, t, h => h
  | k + 1, t, h => by
    have h1 := lk_star_mono f l k (t + 1) (by rw [show t + 1 + k = t + (k + 1) by omega]; exact h)
    by_cases z : t < l.length
    · rw [lk_star_at f l t (by omega), decide_eq_true z, h1]
      simp
    · rw [List.drop_of_length_le (by omega)] at h1 ⊢
      exact h1
theorem lk_star_ex (f : List Nat → Bool) (l : List Nat) : ∀ (k t : Nat), t + k = l.length → lk_star f (l.drop t) = true → ∃ j, t ≤ j ∧ j ≤ l.length ∧ f (l.drop j) = true
  | 0, t, hk, h => by
    rw [lk_star_at f l t (by omega), decide_eq_false (by omega), Bool.false_and, Bool.or_false] at h
    exact ⟨t, Nat.le_refl _, by omega, h⟩
  | k + 1, t, hk, h => by
    rw [lk_star_at f l t (by omega), decide_eq_true (show t < l.length by omega), Bool.true_and, Bool.or_eq_true] at h
    rcases h with h | h
    · exact ⟨t, Nat.le_refl _, by omega, h⟩
    · obtain ⟨j, h1, h2, h3⟩ := lk_star_ex f l k (t + 1) (by omega) h
      exact ⟨j, by omega, h2, h3⟩
theorem lk_star_in (f : List Nat → Bool) (l : List Nat) (j : Nat) (h : f (l.drop j) = true) : lk_star f (l.drop j) = true := by
  by_cases z : j ≤ l.length
  · rw [lk_star_at f l j z, h, Bool.true_or]
  · rw [List.drop_of_length_le (by omega)] at h ⊢
    exact h
/-- what isn't a star takes a character each -/
theorem lk_seg (op : Bool) (ms : List Int) : ∀ (seg : List Int) (l : List Nat), (∀ m ∈ seg, m ≠ -2) → lk op (seg ++ ms) l = true → lk op ms (l.drop seg.length) = true ∧ seg.length ≤ l.length
  | [], l, _, h => ⟨h, Nat.zero_le _⟩
  | m :: seg, l, hs, h => by
    have hm := hs m (List.mem_cons_self ..)
    have h' : lk_one m (lk op (seg ++ ms)) l = true := by
      have e : lk op ((m :: seg) ++ ms) = lk_one m (lk op (seg ++ ms)) := by
        show (if m = -2 then lk_star (lk op (seg ++ ms)) else lk_one m (lk op (seg ++ ms))) = _
        rw [if_neg hm]
      rw [← e]
      exact h
    cases l with
    | nil => exact absurd (show false = true from h') (by decide)
    | cons c t =>
      have h2 : (decide (m = -1 ∨ m = (nl_g c : Int)) && lk op (seg ++ ms) t) = true := h'
      rw [Bool.and_eq_true] at h2
      obtain ⟨q1, q2⟩ := lk_seg op ms seg t (fun x hx => hs x (List.mem_cons_of_mem _ hx)) h2.2
      exact ⟨q1, by simp only [List.length_cons]; omega⟩
theorem lk_cons {op : Bool} {m : Int} {ms : List Int} (hm : m ≠ -2) : lk op (m :: ms) = lk_one m (lk op ms) := if_neg hm
theorem lk_consS {op : Bool} {ms : List Int} : lk op (-2 :: ms) = lk_star (lk op ms) := if_pos rfl
/-- a new star stands for the old one's ways -/
theorem lk_sub {op : Bool} {w l : List Nat} {tp pp : Nat} {so : Option (Nat × Nat)} (hI : lkI w l tp pp so) (ms : List Int) (e : lk_tk (w.drop pp) = -2 :: ms) (htp : tp ≤ l.length) : (lk_star (lk op ms) (l.drop tp) || lkB op w l so) = lk_star (lk op ms) (l.drop tp) := by
  cases so with
  | none => exact Bool.or_false _
  | some q =>
    obtain ⟨-, seg, h1, h2, h3⟩ := hI
    cases hB : lkB op w l (some q)
    · exact Bool.or_false _
    · have hB' : (decide (q.2 < l.length) && lk_star (lk op (lk_tk (w.drop (q.1 + 1)))) (l.drop (q.2 + 1))) = true := hB
      rw [Bool.and_eq_true] at hB'
      obtain ⟨b1, b2⟩ := hB'
      have b1' := of_decide_eq_true b1
      obtain ⟨j, j1, j2, j3⟩ := lk_star_ex _ l (l.length - (q.2 + 1)) (q.2 + 1) (by omega) b2
      rw [h1, e] at j3
      obtain ⟨k1, k2⟩ := lk_seg op _ seg _ h2 j3
      rw [lk_consS, List.drop_drop] at k1
      have : lk_star (lk op ms) (l.drop tp) = true := lk_star_mono _ l (j + seg.length - tp) tp (by
        rw [show tp + (j + seg.length - tp) = j + seg.length by omega]
        exact k1)
      rw [this]
      rfl
theorem lk_tk_c (c : Nat) (rest : List Nat) (h : ∀ d r, rest = d :: r → lk_e c d = false) : lk_tk (c :: rest) = lk_m c :: lk_tk rest := by
  cases rest with
  | nil => rfl
  | cons d r =>
    show (if lk_e c d = true then (d : Int) :: lk_tk r else lk_m c :: lk_tk (d :: r)) = _
    rw [h d r rfl]
    rfl
theorem lk_tk_g (c d : Nat) (r : List Nat) (h : lk_e c d = true) : lk_tk (c :: d :: r) = (d : Int) :: lk_tk r := by
  show (if lk_e c d = true then (d : Int) :: lk_tk r else lk_m c :: lk_tk (d :: r)) = _
  rw [if_pos h]
theorem lk_e_f {c d : Nat} (h : c = 126 → (d = 63 ∨ d = 42 ∨ d = 126) → False) : lk_e c d = false := Bool.eq_false_iff.mpr fun z => by
  unfold lk_e at z
  simp only [Bool.and_eq_true, Bool.or_eq_true, beq_iff_eq] at z
  exact h z.1 (by omega)
section MLI
variable {h : gk_H} {S : gv_S} {it ip at_ fr : Nat} {l w : List Nat} {op : Bool}
theorem gI_pl (a b : Nat) : gI (a + b) + (1 : Int32) = gI (a + (b + 1)) := gI_add (a + b) 1
theorem ml_loop (hs : m_src h S it at_ l) (hp : m_src h S ip fr w) (hl : l.length ≤ 255) (hw : w.length ≤ 255) : ∀ (k fu tp pp : Nat) (so : Option (Nat × Nat)) (mkv : Int32), tp ≤ l.length → pp ≤ w.length → lkU w l pp so ≤ k → k < fu → lkI w l tp pp so → (∀ q, so = some q → mkv = gI (at_ + q.2)) → f_M_isLike_b25 fu (some it) (some ip) (gB op) (gI (at_ + l.length)) (gI (fr + w.length)) (gI (at_ + tp)) (gI (fr + pp)) (lkS fr so) mkv (gv_ov h S) = some (gB (lkA op w l tp pp || lkB op w l so), gv_ov h S) := by
  have hs3 := hs.2.2.1
  have hp3 := hp.2.2.1
  intro k
  refine Nat.strongRecOn k ?_
  clear k
  intro k IH fu tp pp so mkv htp hpp hk hfu hI hmk
  obtain ⟨fu, rfl⟩ : ∃ f, fu = f + 1 := ⟨fu - 1, by omega⟩
  -- on to the next way of the star
  have b240 : lkA op w l tp pp = false → f_M_isLike_b240 (f_M_isLike_b25 fu) (some it) (some ip) (gB op) (gI (at_ + l.length)) (gI (fr + w.length)) (lkS fr so) mkv (gv_ov h S) = some (gB (lkA op w l tp pp || lkB op w l so), gv_ov h S) := by
    intro hA
    rw [hA, Bool.false_or]
    have b252 : f_M_isLike_b252 (gv_ov h S) = some (gB false, gv_ov h S) := by
      unfold f_M_isLike_b252
      rw [nb0]
      rfl
    unfold f_M_isLike_b240 f_M_isLike_b267
    cases so with
    | none =>
      rw [show lkS fr none = (-1 : Int32) from rfl, if_pos (by decide), b252]
      rfl
    | some q =>
      obtain ⟨q1, seg, h1, h2, h3⟩ := id hI
      have em : mkv = gI (at_ + q.2) := hmk q rfl
      have e0 : ¬ gI (fr + q.1) < (0 : Int32) := by
        rw [show (0 : Int32) = gI 0 from rfl, gI_lt _ _ (by omega) (by decide)]
        omega
      rw [show lkS fr (some q) = gI (fr + q.1) from rfl, if_neg e0, em, ite_lt _ _ _ _ (by omega) (by omega)]
      have eB : lkB op w l (some q) = (decide (q.2 < l.length) && lk_star (lk op (lk_tk (w.drop (q.1 + 1)))) (l.drop (q.2 + 1))) := rfl
      by_cases z : q.2 < l.length
      · have eu1 : lkU w l pp (some q) = (l.length - q.2) * (w.length + 1) + (w.length - pp) := rfl
        have eu2 : lkU w l (q.1 + 1) (some (q.1, q.2 + 1)) = (l.length - (q.2 + 1)) * (w.length + 1) + (w.length - (q.1 + 1)) := rfl
        have emul : (l.length - q.2) * (w.length + 1) = (l.length - (q.2 + 1)) * (w.length + 1) + (w.length + 1) := by
          rw [show l.length - q.2 = (l.length - (q.2 + 1)) + 1 by omega, Nat.add_mul, Nat.one_mul]
        have := IH (k - 1) (by omega) fu (q.2 + 1) (q.1 + 1) (some (q.1, q.2 + 1)) (gI (at_ + (q.2 + 1))) (by omega) (by omega) (by omega) (by omega) ⟨q1, [], rfl, fun m hm => absurd hm List.not_mem_nil, rfl⟩ (fun q' hq' => by
          cases hq'
          rfl)
        have e2 : (lkA op w l (q.2 + 1) (q.1 + 1) || lkB op w l (some (q.1, q.2 + 1))) = lkB op w l (some q) := by
          rw [eB, decide_eq_true z, Bool.true_and, lk_star_at _ l (q.2 + 1) (by omega)]
          rfl
        rw [e2] at this
        rw [if_pos (by omega), gI_pl, gk_let_eq, gI_pl, gk_let_eq]
        exact this
      · rw [if_neg (by omega), b252, eB, decide_eq_false z, Bool.false_and]
  -- a character taken
  have b216 : ∀ (gd : Bool) (pp' : Nat) (m : Int), pp' = (if gd = true then pp + 2 else pp + 1) → pp' ≤ w.length → pp < w.length → lk_tk (w.drop pp) = m :: lk_tk (w.drop pp') → m ≠ -2 → tp < l.length → (m = -1 ∨ m = (nl_g (l.getD tp 0) : Int)) → f_M_isLike_b216 (f_M_isLike_b25 fu) (some it) (some ip) (gB op) (gI (at_ + l.length)) (gI (fr + w.length)) (gI (at_ + tp)) (gI (fr + pp)) (lkS fr so) mkv (gB gd) (gv_ov h S) = some (gB (lkA op w l tp pp || lkB op w l so), gv_ov h S) := by
    intro gd pp' m epp hpp' hpw etk hm htl hch
    have hU : lkU w l pp' so ≤ k - 1 ∧ k - 1 < k := by
      cases so with
      | none =>
        have e1 : lkU w l pp none = (l.length + 1) * (w.length + 1) + (w.length - pp) := rfl
        have e2 : lkU w l pp' none = (l.length + 1) * (w.length + 1) + (w.length - pp') := rfl
        rw [e1] at hk
        rw [e2]
        have : pp < pp' := by rw [epp]; split <;> omega
        omega
      | some q =>
        have e1 : lkU w l pp (some q) = (l.length - q.2) * (w.length + 1) + (w.length - pp) := rfl
        have e2 : lkU w l pp' (some q) = (l.length - q.2) * (w.length + 1) + (w.length - pp') := rfl
        rw [e1] at hk
        rw [e2]
        have : pp < pp' := by rw [epp]; split <;> omega
        omega
    have hI' : lkI w l (tp + 1) pp' so := by
      cases so with
      | none => trivial
      | some q =>
        obtain ⟨q1, seg, h1, h2, h3⟩ := hI
        refine ⟨q1, seg ++ [m], ?_, ?_, ?_⟩
        · rw [h1, etk, List.append_assoc]
          rfl
        · intro x hx
          rcases List.mem_append.mp hx with y | y
          · exact h2 x y
          · rw [List.mem_singleton.mp y]
            exact hm
        · rw [List.length_append, List.length_singleton]
          omega
    have := IH (k - 1) hU.2 fu (tp + 1) pp' so mkv (by omega) hpp' hU.1 (by omega) hI' hmk
    have eA : lkA op w l tp pp = lkA op w l (tp + 1) pp' := by
      unfold lkA
      rw [etk, lk_cons hm, List.drop_eq_getElem_cons htl]
      show (decide (m = -1 ∨ m = (nl_g l[tp] : Int)) && lk op (lk_tk (w.drop pp')) (l.drop (tp + 1))) = _
      have e0 : l.getD tp 0 = l[tp] := by rw [List.getD_eq_getElem?_getD, List.getElem?_eq_getElem htl]; rfl
      rw [e0] at hch
      rw [decide_eq_true hch, Bool.true_and]
    unfold f_M_isLike_b216 f_M_isLike_b232 f_M_isLike_b267
    rw [ite_B, eA]
    cases gd
    · have e1 : pp' = pp + 1 := epp
      rw [if_neg (by decide), gI_pl, gI_pl, gk_let_eq]
      rw [e1] at this ⊢
      exact this
    · have e1 : pp' = pp + 2 := epp
      rw [if_pos rfl, gI_pl, show gI (fr + pp) + (2 : Int32) = gI (fr + (pp + 2)) from gI_add _ 2, gk_let_eq]
      rw [e1] at this ⊢
      exact this
  rw [f_M_isLike_b25]
  dsimp only
  rw [ite_eq _ _ _ _ (by omega) (by omega)]
  by_cases zo : pp = w.length
  · -- the pattern is over
    have eA : lkA op w l tp pp = (op || (l.drop tp).isEmpty) := by
      unfold lkA
      rw [List.drop_of_length_le (show w.length ≤ pp by omega)]
      rfl
    have b56 : f_M_isLike_b56 (gv_ov h S) = some (gB true, gv_ov h S) := by
      unfold f_M_isLike_b56
      rw [nb1]
      rfl
    rw [if_pos (by omega)]
    unfold f_M_isLike_b37
    rw [if_neg (show ¬ ((1 : Int32) = 0) by decide), ite_B, b56]
    by_cases zop : op = true
    · rw [if_pos zop, eA, zop]
      rfl
    · rw [if_neg zop, ite_eq _ _ _ _ (by omega) (by omega)]
      by_cases zt : tp = l.length
      · rw [if_pos (by omega), eA, List.drop_of_length_le (show l.length ≤ tp by omega)]
        have : op = false := by simpa using zop
        rw [this]
        rfl
      · rw [if_neg (by omega)]
        unfold f_M_isLike_b58 f_M_isLike_b122 f_M_isLike_b123 f_M_isLike_b159
        rw [if_neg (show ¬ ((1 : Int32) = 0) by decide), if_neg (show ¬ ((1 : Int32) = 0) by decide), if_neg (show ¬ ((1 : Int32) = 0) by decide)]
        refine b240 ?_
        have hop : op = false := by simpa using zop
        rw [eA, hop, Bool.false_or, List.drop_eq_getElem_cons (show tp < l.length by omega)]
        rfl
  · rw [if_neg (by omega)]
    have hpw : pp < w.length := by omega
    have ew : w.drop pp = w.getD pp 0 :: w.drop (pp + 1) := by
      rw [List.drop_eq_getElem_cons hpw, List.getD_eq_getElem?_getD, List.getElem?_eq_getElem hpw]
      rfl
    have hc128 : w.getD pp 0 < 128 := hp.2.1 _ (by
      rw [List.getD_eq_getElem?_getD, List.getElem?_eq_getElem hpw]
      exact List.getElem_mem _)
    have rc : ∀ {β : Type} (K : Int32 → Option β), ((gk_ald (gv_ov h S) (some ip) 3 (gI (fr + pp))).bind gk_asI).bind K = K (gI (w.getD pp 0)) := fun K => hp.1 pp hpw K
    have q0 : ∀ {β : Type} (X Y : β), (if (0 : Int32) = 0 then X else Y) = X := fun X Y => if_pos rfl
    have q1 : ∀ {β : Type} (X Y : β), (if (1 : Int32) = 0 then X else Y) = Y := fun X Y => if_neg (by decide)
    have kc : ∀ m : Nat, m < 1000 → (gI (w.getD pp 0) = gI m) = (w.getD pp 0 = m) := fun m hm => gI_eq _ m (by omega) (by omega)
    -- no star here: the token m, the next place pp'
    have b159 : ∀ (gd : Bool) (pp' : Nat) (m : Int), pp' = (if gd = true then pp + 2 else pp + 1) → pp' ≤ w.length → lk_tk (w.drop pp) = m :: lk_tk (w.drop pp') → m ≠ -2 → (gd = false → m = lk_m (w.getD pp 0)) → (gd = true → pp + 1 < w.length ∧ m = (w.getD (pp + 1) 0 : Int) ∧ nl_g (w.getD (pp + 1) 0) = w.getD (pp + 1) 0 ∧ w.getD (pp + 1) 0 < 128) → f_M_isLike_b159 (f_M_isLike_b25 fu) (some it) (some ip) (gB op) (gI (at_ + l.length)) (gI (fr + w.length)) (gI (at_ + tp)) (gI (fr + pp)) (lkS fr so) mkv (0 : Int32) (gB gd) (gv_ov h S) = some (gB (lkA op w l tp pp || lkB op w l so), gv_ov h S) := by
      intro gd pp' m epp hpp' etk hm hg0 hg1
      have adv := b216 gd pp' m epp hpp' hpw etk hm
      unfold f_M_isLike_b159
      rw [q0, ite_le _ _ _ _ (by omega) (by omega)]
      by_cases zt : l.length ≤ tp
      · rw [if_pos (by omega)]
        refine b240 ?_
        unfold lkA
        rw [etk, lk_cons hm, List.drop_of_length_le zt]
        rfl
      · have htl : tp < l.length := by omega
        have e0 : l.getD tp 0 = l[tp] := by rw [List.getD_eq_getElem?_getD, List.getElem?_eq_getElem htl]; rfl
        have ht128 : l.getD tp 0 < 128 := hs.2.1 _ (by rw [e0]; exact List.getElem_mem _)
        have rt : ∀ {β : Type} (K : Int32 → Option β), ((gk_ald (gv_ov h S) (some it) 3 (gI (at_ + tp))).bind gk_asI).bind K = K (gI (l.getD tp 0)) := fun K => hs.1 tp htl K
        have miss : ¬ (m = -1 ∨ m = (nl_g (l.getD tp 0) : Int)) → lkA op w l tp pp = false := fun hch => by
          unfold lkA
          rw [etk, lk_cons hm, List.drop_eq_getElem_cons htl]
          show (decide (m = -1 ∨ m = (nl_g l[tp] : Int)) && lk op (lk_tk (w.drop pp')) (l.drop (tp + 1))) = false
          rw [e0] at hch
          rw [decide_eq_false hch, Bool.false_and]
        have b186 : m ≠ -1 → f_M_isLike_b186 (f_M_isLike_b25 fu) (some it) (some ip) (gB op) (gI (at_ + l.length)) (gI (fr + w.length)) (gI (at_ + tp)) (gI (fr + pp)) (lkS fr so) mkv (gB gd) (gv_ov h S) = some (gB (lkA op w l tp pp || lkB op w l so), gv_ov h S) := by
          intro hm1
          have gl := nl_g_lt ht128
          unfold f_M_isLike_b186 f_M_isLike_b209
          rw [rt, m_great _ ht128, gk_ca_some, ite_B]
          cases gd
          · rw [if_neg (by decide), rc, m_great _ hc128, gk_ca_some, ite_eq _ _ _ _ (by omega) (by have := nl_g_lt hc128; omega)]
            have em := hg0 rfl
            have em2 : m = (nl_g (w.getD pp 0) : Int) := by
              rw [em]
              unfold lk_m
              by_cases y1 : w.getD pp 0 = 63
              · exact absurd (show m = -1 by rw [em]; unfold lk_m; rw [if_pos y1]) hm1
              · by_cases y2 : w.getD pp 0 = 42
                · exact absurd (show m = -2 by rw [em]; unfold lk_m; rw [if_neg y1, if_pos y2]) hm
                · rw [if_neg y1, if_neg y2]
            by_cases y : nl_g (l.getD tp 0) = nl_g (w.getD pp 0)
            · rw [if_pos y]
              exact adv htl (Or.inr (by rw [em2, y]))
            · rw [if_neg y]
              exact b240 (miss (by rintro (z | z); exact hm1 z; rw [em2] at z; omega))
          · obtain ⟨g1, g2, g3, g4⟩ := hg1 rfl
            have rd : ∀ {β : Type} (K : Int32 → Option β), ((gk_ald (gv_ov h S) (some ip) 3 (gI (fr + (pp + 1)))).bind gk_asI).bind K = K (gI (w.getD (pp + 1) 0)) := fun K => hp.1 (pp + 1) g1 K
            rw [if_pos rfl, gI_pl, rd, m_great _ g4, gk_ca_some, g3, ite_eq _ _ _ _ (by omega) (by omega)]
            by_cases y : nl_g (l.getD tp 0) = w.getD (pp + 1) 0
            · rw [if_pos y]
              exact adv htl (Or.inr (by rw [g2, y]))
            · rw [if_neg y]
              exact b240 (miss (by rintro (z | z); exact hm1 z; rw [g2] at z; omega))
        rw [if_neg (by omega), ite_B]
        cases gd
        · have em := hg0 rfl
          have k63 := kc 63 (by decide)
          rw [if_neg (by decide), rc]
          by_cases y : w.getD pp 0 = 63
          · rw [if_pos (show gI (w.getD pp 0) = (63 : Int32) from k63.mpr y)]
            exact adv htl (Or.inl (by rw [em]; unfold lk_m; rw [if_pos y]))
          · rw [if_neg (show ¬ gI (w.getD pp 0) = (63 : Int32) from fun q => y (k63.mp q))]
            refine b186 ?_
            rw [em]
            unfold lk_m
            rw [if_neg y]
            split <;> omega
        · obtain ⟨g1, g2, g3, g4⟩ := hg1 rfl
          rw [if_pos rfl]
          exact b186 (by omega)
    -- what isn't guarded
    have b122 : (∀ d r, w.drop (pp + 1) = d :: r → lk_e (w.getD pp 0) d = false) → f_M_isLike_b122 (f_M_isLike_b25 fu) (some it) (some ip) (gB op) (gI (at_ + l.length)) (gI (fr + w.length)) (gI (at_ + tp)) (gI (fr + pp)) (lkS fr so) mkv (0 : Int32) (gv_ov h S) = some (gB (lkA op w l tp pp || lkB op w l so), gv_ov h S) := by
      intro hng
      have etk : lk_tk (w.drop pp) = lk_m (w.getD pp 0) :: lk_tk (w.drop (pp + 1)) := by
        rw [ew]
        exact lk_tk_c _ _ hng
      have k42 := kc 42 (by decide)
      unfold f_M_isLike_b122 f_M_isLike_b123
      rw [q0, q0, rc]
      by_cases y : w.getD pp 0 = 42
      · have em : lk_m (w.getD pp 0) = -2 := by
          unfold lk_m
          rw [if_neg (by omega), if_pos y]
        rw [em] at etk
        have eA : lkA op w l tp pp = lk_star (lk op (lk_tk (w.drop (pp + 1)))) (l.drop tp) := by
          unfold lkA
          rw [etk, lk_consS]
        have hU : lkU w l (pp + 1) (some (pp, tp)) ≤ k - 1 ∧ k - 1 < k := by
          have e2 : lkU w l (pp + 1) (some (pp, tp)) = (l.length - tp) * (w.length + 1) + (w.length - (pp + 1)) := rfl
          cases so with
          | none =>
            have e1 : lkU w l pp none = (l.length + 1) * (w.length + 1) + (w.length - pp) := rfl
            have := Nat.mul_le_mul_right (w.length + 1) (show l.length - tp ≤ l.length + 1 by omega)
            omega
          | some q =>
            have e1 : lkU w l pp (some q) = (l.length - q.2) * (w.length + 1) + (w.length - pp) := rfl
            obtain ⟨q1', seg, h1, h2, h3⟩ := id hI
            have := Nat.mul_le_mul_right (w.length + 1) (show l.length - tp ≤ l.length - q.2 by omega)
            omega
        have := IH (k - 1) hU.2 fu tp (pp + 1) (some (pp, tp)) (gI (at_ + tp)) htp (by omega) hU.1 (by omega) ⟨hpw, [], rfl, fun m hm => absurd hm List.not_mem_nil, rfl⟩ (fun q hq => by
          cases hq
          rfl)
        have e3 : (lkA op w l tp (pp + 1) || lkB op w l (some (pp, tp))) = (lkA op w l tp pp || lkB op w l so) := by
          rw [eA, lk_sub hI _ etk htp, lk_star_at _ l tp htp]
          rfl
        rw [e3] at this
        unfold f_M_isLike_b267
        rw [if_pos (show gI (w.getD pp 0) = (42 : Int32) from k42.mpr y), gI_pl, gk_let_eq]
        exact this
      · rw [if_neg (show ¬ gI (w.getD pp 0) = (42 : Int32) from fun q => y (k42.mp q))]
        refine b159 false (pp + 1) _ rfl (by omega) etk ?_ (fun _ => rfl) (fun z => by cases z)
        unfold lk_m
        rw [if_neg y]
        split <;> omega
    have b118 : pp + 1 < w.length → lk_e (w.getD pp 0) (w.getD (pp + 1) 0) = true → f_M_isLike_b118 (f_M_isLike_b25 fu) (some it) (some ip) (gB op) (gI (at_ + l.length)) (gI (fr + w.length)) (gI (at_ + tp)) (gI (fr + pp)) (lkS fr so) mkv (0 : Int32) (gv_ov h S) = some (gB (lkA op w l tp pp || lkB op w l so), gv_ov h S) := by
      intro h1 he
      have ew2 : w.drop (pp + 1) = w.getD (pp + 1) 0 :: w.drop (pp + 2) := by
        rw [List.drop_eq_getElem_cons h1, List.getD_eq_getElem?_getD, List.getElem?_eq_getElem h1]
        rfl
      have etk : lk_tk (w.drop pp) = (w.getD (pp + 1) 0 : Int) :: lk_tk (w.drop (pp + 2)) := by
        rw [ew, ew2]
        exact lk_tk_g _ _ _ he
      have hd : w.getD (pp + 1) 0 = 63 ∨ w.getD (pp + 1) 0 = 42 ∨ w.getD (pp + 1) 0 = 126 := by
        unfold lk_e at he
        simp only [Bool.and_eq_true, Bool.or_eq_true, beq_iff_eq] at he
        omega
      unfold f_M_isLike_b118 f_M_isLike_b123
      rw [q0, q1]
      refine b159 true (pp + 2) _ rfl (by omega) etk (by omega) (fun z => by cases z) (fun _ => ⟨h1, rfl, ?_, by omega⟩)
      unfold nl_g
      rw [if_neg (by omega)]
    have k126 := kc 126 (by decide)
    unfold f_M_isLike_b37 f_M_isLike_b58
    rw [q0, q0, rc]
    by_cases y : w.getD pp 0 = 126
    · rw [if_pos (show gI (w.getD pp 0) = (126 : Int32) from k126.mpr y), gI_pl, ite_le _ _ _ _ (by omega) (by omega)]
      by_cases z : w.length ≤ pp + 1
      · rw [if_pos (by omega)]
        refine b122 fun d r e => ?_
        rw [List.drop_of_length_le z] at e
        cases e
      · have g1 : pp + 1 < w.length := by omega
        have ew2 : w.drop (pp + 1) = w.getD (pp + 1) 0 :: w.drop (pp + 2) := by
          rw [List.drop_eq_getElem_cons g1, List.getD_eq_getElem?_getD, List.getElem?_eq_getElem g1]
          rfl
        have hd128 : w.getD (pp + 1) 0 < 128 := hp.2.1 _ (by
          rw [List.getD_eq_getElem?_getD, List.getElem?_eq_getElem g1]
          exact List.getElem_mem _)
        have rd : ∀ {β : Type} (K : Int32 → Option β), ((gk_ald (gv_ov h S) (some ip) 3 (gI (fr + (pp + 1)))).bind gk_asI).bind K = K (gI (w.getD (pp + 1) 0)) := fun K => hp.1 (pp + 1) g1 K
        have kd : ∀ m : Nat, m < 1000 → (gI (w.getD (pp + 1) 0) = gI m) = (w.getD (pp + 1) 0 = m) := fun m hm => gI_eq _ m (by omega) (by omega)
        have d63 := kd 63 (by decide)
        have d42 := kd 42 (by decide)
        have d126 := kd 126 (by decide)
        have eg : ∀ d, d = 63 ∨ d = 42 ∨ d = 126 → lk_e (w.getD pp 0) d = true := fun d hd => by
          rw [y]
          rcases hd with rfl | rfl | rfl <;> rfl
        rw [if_neg (by omega), rd]
        by_cases y1 : w.getD (pp + 1) 0 = 63
        · rw [if_pos (show gI (w.getD (pp + 1) 0) = (63 : Int32) from d63.mpr y1)]
          exact b118 g1 (eg _ (Or.inl y1))
        · rw [if_neg (show ¬ gI (w.getD (pp + 1) 0) = (63 : Int32) from fun q => y1 (d63.mp q)), rd]
          by_cases y2 : w.getD (pp + 1) 0 = 42
          · rw [if_pos (show gI (w.getD (pp + 1) 0) = (42 : Int32) from d42.mpr y2)]
            exact b118 g1 (eg _ (Or.inr (Or.inl y2)))
          · rw [if_neg (show ¬ gI (w.getD (pp + 1) 0) = (42 : Int32) from fun q => y2 (d42.mp q)), rd]
            by_cases y3 : w.getD (pp + 1) 0 = 126
            · rw [if_pos (show gI (w.getD (pp + 1) 0) = (126 : Int32) from d126.mpr y3)]
              exact b118 g1 (eg _ (Or.inr (Or.inr y3)))
            · rw [if_neg (show ¬ gI (w.getD (pp + 1) 0) = (126 : Int32) from fun q => y3 (d126.mp q))]
              refine b122 fun d r e => ?_
              rw [ew2] at e
              cases e
              exact lk_e_f (fun w1 w2 => by omega)
    · rw [if_neg (show ¬ gI (w.getD pp 0) = (126 : Int32) from fun q => y (k126.mp q))]
      refine b122 fun d r e => ?_
      exact lk_e_f (fun w1 w2 => absurd w1 y)
/-- like -/
theorem m_like (hs : m_src h S it at_ l) (hp : m_src h S ip fr w) (hl : l.length ≤ 255) (hw : w.length ≤ 255) (op : Bool) : f_M_isLike (some 30) (some it) (gI at_) (gI l.length) (some ip) (gI fr) (gI w.length) (gB op) (gv_ov h S) = some (gB (lk op (lk_tk w) l), gv_ov h S) := by
  have e := ml_loop (op := op) hs hp hl hw (lkU w l 0 none) gk_F 0 0 none (gI at_) (Nat.zero_le _) (Nat.zero_le _) (Nat.le_refl _) (by
    have e1 : lkU w l 0 none = (l.length + 1) * (w.length + 1) + (w.length - 0) := rfl
    have := Nat.mul_le_mul (show l.length + 1 ≤ 256 by omega) (show w.length + 1 ≤ 256 by omega)
    unfold gk_F
    omega) trivial (fun q hq => by cases hq)
  unfold f_M_isLike
  rw [gI_add, gI_add, gk_let_eq, gk_let_eq]
  rw [show (lkA op w l 0 0 || lkB op w l none) = lk op (lk_tk w) l from Bool.or_false _] at e
  exact e
end MLI
