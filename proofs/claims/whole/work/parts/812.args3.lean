/-! THE PURE PART: a row sorted; the arguments taken (the class) -/
/-- x put among those left of it (the nearest first), B right of it -/
def sr_in : List UInt64 → UInt64 → List UInt64 → List UInt64
  | [], x, B => x :: B
  | y :: R, x, B => if fd_k y ≤ fd_k x then (y :: R).reverse ++ x :: B else sr_in R x (y :: B)
def sr_to : List UInt64 → List UInt64 → List UInt64
  | P, [] => P
  | P, x :: r => sr_to (sr_in P.reverse x []) r
def sr (l : List UInt64) : List UInt64 := match l with
  | [] => []
  | x :: r => sr_to [x] r
theorem sr_in_app : ∀ (R : List UInt64) (x : UInt64) (B : List UInt64), sr_in R x B = sr_in R x [] ++ B
  | [], x, B => rfl
  | y :: R, x, B => by
    unfold sr_in
    split
    · simp
    · rw [sr_in_app R x (y :: B), sr_in_app R x [y]]
      simp
theorem sr_in_len : ∀ (R : List UInt64) (x : UInt64) (B : List UInt64), (sr_in R x B).length = R.length + 1 + B.length
  | [], x, B => by
    unfold sr_in
    rw [List.length_cons, List.length_nil]
    omega
  | y :: R, x, B => by
    unfold sr_in
    split
    · simp
      omega
    · rw [sr_in_len R x (y :: B), List.length_cons, List.length_cons]
      omega
theorem sr_in_mem : ∀ (R : List UInt64) (x : UInt64) (B : List UInt64) (z : UInt64), z ∈ sr_in R x B → z ∈ R ∨ z = x ∨ z ∈ B
  | [], x, B, z, h => by
    unfold sr_in at h
    rcases List.mem_cons.mp h with h | h
    · exact Or.inr (Or.inl h)
    · exact Or.inr (Or.inr h)
  | y :: R, x, B, z, h => by
    unfold sr_in at h
    split at h
    · rcases List.mem_append.mp h with h | h
      · exact Or.inl (List.mem_reverse.mp h)
      · rcases List.mem_cons.mp h with h | h
        · exact Or.inr (Or.inl h)
        · exact Or.inr (Or.inr h)
    · rcases sr_in_mem R x (y :: B) z h with h | h | h
      · exact Or.inl (List.mem_cons_of_mem _ h)
      · exact Or.inr (Or.inl h)
      · rcases List.mem_cons.mp h with h | h
        · exact Or.inl (by rw [h]; exact List.mem_cons_self)
        · exact Or.inr (Or.inr h)
theorem sr_to_len : ∀ (r P : List UInt64), (sr_to P r).length = P.length + r.length
  | [], P => rfl
  | x :: r, P => by
    unfold sr_to
    rw [sr_to_len r, sr_in_len, List.length_reverse, List.length_cons, List.length_nil]
    omega
theorem sr_to_mem : ∀ (r P : List UInt64) (z : UInt64), z ∈ sr_to P r → z ∈ P ∨ z ∈ r
  | [], P, z, h => Or.inl h
  | x :: r, P, z, h => by
    unfold sr_to at h
    rcases sr_to_mem r _ z h with h | h
    · rcases sr_in_mem _ _ _ z h with h | h | h
      · exact Or.inl (List.mem_reverse.mp h)
      · exact Or.inr (by rw [h]; exact List.mem_cons_self)
      · exact absurd h List.not_mem_nil
    · exact Or.inr (List.mem_cons_of_mem _ h)
theorem sr_len (l : List UInt64) : (sr l).length = l.length := by
  cases l with
  | nil => rfl
  | cons x r =>
    unfold sr
    rw [sr_to_len, List.length_cons, List.length_cons, List.length_nil]
    omega
theorem sr_mem {l : List UInt64} {z : UInt64} (h : z ∈ sr l) : z ∈ l := by
  cases l with
  | nil => exact h
  | cons x r =>
    unfold sr at h
    rcases sr_to_mem r [x] z h with h | h
    · rw [List.mem_singleton.mp h]
      exact List.mem_cons_self
    · exact List.mem_cons_of_mem _ h
theorem gA_set (S : gv_S) (f : Nat) (row : List UInt64) (k : Nat) (x : UInt64) (hk : k < row.length) : gv_uD (gA S f row) 23 k x = gA S f (row.set k x) := by
  unfold gv_uD gA
  have hl : (row.set k x).length = row.length := List.length_set
  refine Prod.ext (funext fun a => funext fun b => ?_) (Prod.ext (funext fun a => funext fun b => ?_) rfl)
  · show (if a = 20 ∧ b = 3 then gI f else if a = 20 ∧ b = 5 then gI row.length else S.1 a b) = if a = 20 ∧ b = 3 then gI f else if a = 20 ∧ b = 5 then gI (row.set k x).length else S.1 a b
    rw [hl]
  · show (if a = 23 ∧ b = k then x else if a = 23 ∧ b < row.length then row.getD b 0 else S.2.1 a b) = if a = 23 ∧ b < (row.set k x).length then (row.set k x).getD b 0 else S.2.1 a b
    rw [hl]
    by_cases z : a = 23 ∧ b = k
    · rw [if_pos z, if_pos (by omega), z.2]
      simp [List.getD_eq_getElem?_getD, List.getElem?_set, hk]
    · rw [if_neg z]
      by_cases w : a = 23 ∧ b < row.length
      · rw [if_pos w, if_pos w]
        have : k ≠ b := fun q => z ⟨w.1, q.symm⟩
        simp [List.getD_eq_getElem?_getD, List.getElem?_set, this]
      · rw [if_neg w, if_neg w]
theorem gp_set_mid (R B : List UInt64) (w x : UInt64) : (R.reverse ++ w :: B).set R.length x = R.reverse ++ x :: B := by
  rw [List.set_append_right _ _ (by rw [List.length_reverse]; exact Nat.le_refl _), List.length_reverse, Nat.sub_self, List.set_cons_zero]
theorem gp_get_mid (R B : List UInt64) (w : UInt64) : (R.reverse ++ w :: B).getD R.length 0 = w := by
  simp [List.getD_eq_getElem?_getD]
section GPA
variable {b : Nat} {h : gk_H} {S : gv_S} {f : Nat}
theorem a_sin (g : Option Nat → Int32 → gk_H → Option (Unit × gk_H)) (x : UInt64) (hx : fd_n x) (fr : Nat) : ∀ (R : List UInt64) (w : UInt64) (B : List UInt64) (fu : Nat), R.length < fu → (R.length + 1 + B.length ≤ 128) → (∀ y ∈ R, fd_n y) → f_Ar_sortRow_b20 g fu (some 20) (gI fr) x (gI R.length) (gv_ov h (gA S f (R.reverse ++ w :: B))) = g (some 20) (gI (fr + 1)) (gv_ov h (gA S f (sr_in R x B))) := by
  intro R
  induction R with
  | nil =>
    intro w B fu hf hl hR
    obtain ⟨fu, rfl⟩ : ∃ f, fu = f + 1 := ⟨fu - 1, by omega⟩
    rw [f_Ar_sortRow_b20]
    dsimp only
    unfold f_Ar_sortRow_b61
    rw [List.length_nil, gI_0, ite_le _ _ _ _ (by decide) (by decide), if_pos (Nat.le_refl _), gr_20_4, gt_23 (by decide), gk_let_eq, gI_1, gI_add, gA_set _ _ _ _ _ (by simp)]
    rfl
  | cons y R ih =>
    intro w B fu hf hl hR
    obtain ⟨fu, rfl⟩ : ∃ f, fu = f + 1 := ⟨fu - 1, by omega⟩
    rw [List.length_cons] at hf hl
    have hy := hR y List.mem_cons_self
    have hlen : ((y :: R).reverse ++ w :: B).length = R.length + 1 + (B.length + 1) := by
      simp
      omega
    have eg : ((y :: R).reverse ++ w :: B).getD R.length 0 = y := by
      rw [List.reverse_cons, List.append_assoc]
      exact gp_get_mid R (w :: B) y
    rw [f_Ar_sortRow_b20]
    dsimp only
    rw [List.length_cons, gI_0, ite_le _ _ _ _ (by omega) (by decide), if_neg (by omega), gr_20_4, gI_1, gI_sub _ _ (by omega), Nat.add_sub_cancel, ga_23 (by omega), gA_row _ (by omega), eg, ← gI_0, fi_le _ _ hy hx]
    unfold sr_in
    by_cases z : fd_k y ≤ fd_k x
    · rw [if_pos z, if_pos z]
      unfold f_Ar_sortRow_b61
      rw [gr_20_4, gt_23 (by omega), gk_let_eq, gI_1, gI_add, gA_set _ _ _ _ _ (by omega)]
      have := gp_set_mid (y :: R) B w x
      rw [List.length_cons] at this
      rw [this]
    · have e1 : ((y :: R).reverse ++ w :: B).set (R.length + 1) y = R.reverse ++ y :: y :: B := by
        have := gp_set_mid (y :: R) B w y
        rw [List.length_cons] at this
        rw [this, List.reverse_cons, List.append_assoc]
        rfl
      have e2 : gI (R.length + 1) + -gI 1 = gI R.length := by
        have : -gI 1 = gN (-1) := rfl
        rw [gI_N, this, gN_add, gI_N]
        congr 1
        omega
      rw [if_neg z, if_neg z, gr_20_4, gr_20_4, ga_23 (by omega), gA_row _ (by omega), eg, gt_23 (by omega), gA_set _ _ _ _ _ (by omega), e1, gk_let_eq, e2]
      exact ih y (y :: B) fu (by omega) (by rw [List.length_cons]; omega) (fun q hq => hR q (List.mem_cons_of_mem _ hq))
theorem a_sout : ∀ (r P : List UInt64) (fu : Nat), r.length < fu → P.length + r.length ≤ 128 → 1 ≤ P.length → (∀ y ∈ P, fd_n y) → (∀ y ∈ r, fd_n y) → f_Ar_sortRow_b2 fu (some 20) (gI P.length) (gv_ov h (gA S f (P ++ r))) = some ((), gv_ov h (gA S f (sr_to P r))) := by
  intro r
  induction r with
  | nil =>
    intro P fu hf hl hp _ _
    obtain ⟨fu, rfl⟩ : ∃ f, fu = f + 1 := ⟨fu - 1, by omega⟩
    rw [List.length_nil] at hl
    rw [f_Ar_sortRow_b2]
    dsimp only
    rw [gg_20_5, gA_in, List.append_nil, ite_le _ _ _ _ (by omega) (by omega), if_pos (Nat.le_refl _)]
    rfl
  | cons x r ih =>
    intro P fu hf hl hp hP hr
    obtain ⟨fu, rfl⟩ : ∃ f, fu = f + 1 := ⟨fu - 1, by omega⟩
    rw [List.length_cons] at hf hl
    have hx := hr x List.mem_cons_self
    have hlen : (P ++ x :: r).length = P.length + (r.length + 1) := by simp
    rw [f_Ar_sortRow_b2]
    dsimp only
    rw [gg_20_5, gA_in, ite_le _ _ _ _ (by omega) (by omega), if_neg (by omega), gr_20_4, ga_23 (by omega), gA_row _ (by omega)]
    have eg : (P ++ x :: r).getD P.length 0 = x := by simp [List.getD_eq_getElem?_getD]
    have e1 := a_sin (h := h) (S := S) (f := f) (f_Ar_sortRow_b2 fu) x hx P.length P.reverse x r gk_F (by rw [List.length_reverse]; unfold gk_F; omega) (by rw [List.length_reverse]; omega) (fun y hy => hP y (List.mem_reverse.mp hy))
    rw [List.length_reverse, List.reverse_reverse] at e1
    rw [eg, e1, sr_in_app]
    have e2 := ih (sr_in P.reverse x []) fu (by omega) (by rw [sr_in_len, List.length_reverse, List.length_nil]; omega) (by rw [sr_in_len]; omega) (fun y hy => by
      rcases sr_in_mem _ _ _ _ hy with q | q | q
      · exact hP y (List.mem_reverse.mp q)
      · rw [q]; exact hx
      · exact absurd q List.not_mem_nil) (fun y hy => hr y (List.mem_cons_of_mem _ hy))
    rw [sr_in_len, List.length_reverse, List.length_nil, Nat.add_zero] at e2
    exact e2
theorem a_sort (row : List UInt64) (hl : row.length ≤ 128) (hr : ∀ y ∈ row, fd_n y) : f_Ar_sortRow (some 20) (gv_ov h (gA S f row)) = some ((), gv_ov h (gA S f (sr row))) := by
  unfold f_Ar_sortRow
  cases row with
  | nil =>
    have : gk_F = (gk_F - 1) + 1 := rfl
    rw [this, f_Ar_sortRow_b2]
    dsimp only
    rw [gg_20_5, gA_in, List.length_nil, gI_1, ite_le _ _ _ _ (by decide) (by decide), if_pos (by decide)]
    rfl
  | cons x r =>
    rw [List.length_cons] at hl
    exact a_sout r [x] gk_F (by unfold gk_F; omega) (by rw [List.length_singleton]; omega) (Nat.le_refl _) (fun y hy => hr y (by rw [List.mem_singleton.mp hy]; exact List.mem_cons_self)) (fun y hy => hr y (List.mem_cons_of_mem _ hy))
end GPA
/-- what the class's arguments and likeness may change -/
def gc_fr (S S' : gv_S) : Prop := (∀ a c, (a < 20 ∨ 29 < a) → S'.1 a c = S.1 a c ∧ S'.2.1 a c = S.2.1 a c ∧ S'.2.2.1 a c = S.2.2.1 a c) ∧ S'.2.2.2 = S.2.2.2
theorem gc_fr.refl (S : gv_S) : gc_fr S S := ⟨fun _ _ _ => ⟨rfl, rfl, rfl⟩, rfl⟩
theorem gc_fr.trans {S S' S'' : gv_S} (a : gc_fr S S') (c : gc_fr S' S'') : gc_fr S S'' := by
  refine ⟨fun x y hx => ?_, by rw [c.2, a.2]⟩
  obtain ⟨a1, a2, a3⟩ := a.1 x y hx
  obtain ⟨c1, c2, c3⟩ := c.1 x y hx
  exact ⟨by rw [c1, a1], by rw [c2, a2], by rw [c3, a3]⟩
theorem gA_fr (S : gv_S) (f : Nat) (row : List UInt64) : gc_fr S (gA S f row) := by
  refine ⟨fun x y hx => ⟨?_, ?_, rfl⟩, rfl⟩
  · show (if x = 20 ∧ y = 3 then _ else if x = 20 ∧ y = 5 then _ else _) = _
    rw [if_neg (by omega), if_neg (by omega)]
  · show (if x = 23 ∧ y < row.length then _ else _) = _
    rw [if_neg (by omega)]
section GPA
variable {b : Nat} {h : gk_H} {vs : Nat → gp_V} {n : Nat}
/-- the state while k arguments are taken -/
def ga_part (b : Nat) (h : gk_H) (S : gv_S) (vs : Nat → gp_V) (k : Nat) : Prop := S.1 20 2 = gI k ∧ ∀ m, m < k → (∃ i : Nat, S.2.2.1 21 m = some i ∧ gp_val b h i (vs m)) ∧ ∃ j : Nat, S.2.2.1 22 m = some j ∧ gp_cell b h j (sp_1 (vs m))
theorem a_tloop (first : Nat) (h25 : gp_cell b h 25 (gc_e 3)) (hn : n ≤ 8) (hfn : first + n ≤ 16) : ∀ (fu k : Nat) (S : gv_S), k ≤ n → n - k < fu → ga_part b h S vs k → (∀ m, m < n → ∃ i : Nat, S.2.2.1 17 (first + m) = some i ∧ gp_val b h i (vs m)) → ∃ S', f_Ar_take_b8 fu (some 20) (some 17) (gI first) (gI n) (gI k) (gv_ov h S) = some ((), gv_ov h (gA S' 0 [])) ∧ ga_part b h S' vs n ∧ gc_fr S S' := by
  intro fu
  induction fu with
  | zero => intro k _ _ hf; omega
  | succ fu ih =>
    intro k S hk hf hp hst
    rw [f_Ar_take_b8]
    dsimp only
    rw [ite_le _ _ _ _ (by omega) (by omega)]
    by_cases z : n ≤ k
    · have hkn : k = n := by omega
      subst hkn
      rw [if_pos z]
      unfold f_Ar_take_b96
      rw [gI_0, gs_20_3, gs_20_5]
      refine ⟨S, ?_, hp, gc_fr.refl S⟩
      congr 2
      unfold gv_uI gA
      refine congrArg _ (Prod.ext (funext fun a => funext fun c => ?_) (Prod.ext (funext fun a => funext fun c => ?_) rfl))
      · show (if a = 20 ∧ c = 5 then gI 0 else if a = 20 ∧ c = 3 then gI 0 else S.1 a c) = if a = 20 ∧ c = 3 then gI 0 else if a = 20 ∧ c = 5 then gI 0 else S.1 a c
        by_cases w : a = 20 ∧ c = 5
        · rw [if_pos w, if_neg (by omega), if_pos w]
        · rw [if_neg w, if_neg w]
      · show S.2.1 a c = if a = 23 ∧ c < 0 then _ else S.2.1 a c
        rw [if_neg (by omega)]
    · obtain ⟨i, i1, i2⟩ := hst k (by omega)
      have h16 := i2.1.2.2.1
      have h1r := i2.1.1
      have h1c := i2.1.2.1
      have hpos : 0 < (vs k).2.1 * (vs k).2.2.1 := Nat.mul_pos (by omega) (by omega)
      obtain ⟨cs, fl⟩ := i2.fld
      have tag : ∀ (S : gv_S) (q : Nat), (∃ V, gp_val b h q V) → gk_may (gv_ov h S) 7 (va_rf (some q)) = true := fun S q ⟨V, hV⟩ => by
        obtain ⟨ct, gl⟩ := hV.fld
        unfold gk_may va_rf
        simp only [gv_no gl.2.1.1, gl.2.2.1, decide_true]
      rw [if_neg z, gI_lit 8, ite_le _ _ _ _ (by decide) (by omega), if_neg (by omega), gI_0, ite_lt _ _ _ _ (by omega) (by decide), if_neg (by omega), gl_17, gI_add, ite_le _ _ _ _ (by decide) (by omega), if_neg (by omega), ga_17 (by omega), i1, gr_20_0, gt_21 (by omega) _ (tag _ _ ⟨_, i2⟩), gr_20_1, fl_cv fl, v_many i2, gk_ca_some, gI_lit 1, ite_eq _ _ _ _ (by omega) (by decide)]
      have b79 : ∀ (j : Nat), gp_cell b h j (sp_1 (vs k)) → ∃ S', f_Ar_take_b79 (f_Ar_take_b8 fu) (some 20) (some 17) (gI first) (gI n) (gI k) (some 22) (gI k) (some j) (gv_ov h (gv_uR S 21 k (some i))) = some ((), gv_ov h (gA S' 0 [])) ∧ ga_part b h S' vs n ∧ gc_fr S S' := by
        intro j hj
        unfold f_Ar_take_b79
        rw [gt_22 (by omega) _ (tag _ _ ⟨_, hj.val⟩), gg_20_2, gI_1]
        have e20 : (gv_uR (gv_uR S 21 k (some i)) 22 k (some j)).1 20 2 = gI k := hp.1
        rw [e20, gI_add, gs_20_2, gk_let_eq]
        have hS2 : ga_part b h (gv_uI (gv_uR (gv_uR S 21 k (some i)) 22 k (some j)) 20 2 (gI (k + 1))) vs (k + 1) := by
          refine ⟨rfl, fun m hm => ?_⟩
          have r21 : (gv_uI (gv_uR (gv_uR S 21 k (some i)) 22 k (some j)) 20 2 (gI (k + 1))).2.2.1 21 m = if m = k then some i else S.2.2.1 21 m := by
            show (if 21 = 22 ∧ m = k then some j else if 21 = 21 ∧ m = k then some i else S.2.2.1 21 m) = _
            rw [if_neg (by omega)]
            by_cases w : m = k
            · rw [if_pos ⟨rfl, w⟩, if_pos w]
            · rw [if_neg (fun q => w q.2), if_neg w]
          have r22 : (gv_uI (gv_uR (gv_uR S 21 k (some i)) 22 k (some j)) 20 2 (gI (k + 1))).2.2.1 22 m = if m = k then some j else S.2.2.1 22 m := by
            show (if 22 = 22 ∧ m = k then some j else if 22 = 21 ∧ m = k then some i else S.2.2.1 22 m) = _
            by_cases w : m = k
            · rw [if_pos ⟨rfl, w⟩, if_pos w]
            · rw [if_neg (fun q => w q.2), if_neg (by omega), if_neg w]
          rw [r21, r22]
          by_cases w : m = k
          · rw [if_pos w, if_pos w, w]
            exact ⟨⟨i, rfl, i2⟩, j, rfl, hj⟩
          · rw [if_neg w, if_neg w]
            exact hp.2 m (by omega)
        obtain ⟨S', s1, s2, s3⟩ := ih (k + 1) _ (by omega) (by omega) hS2 (fun m hm => by
          obtain ⟨x, x1, x2⟩ := hst m hm
          refine ⟨x, ?_, x2⟩
          show (if 17 = 22 ∧ first + m = k then some j else if 17 = 21 ∧ first + m = k then some i else S.2.2.1 17 (first + m)) = _
          rw [if_neg (by omega), if_neg (by omega)]
          exact x1)
        refine ⟨S', s1, s2, gc_fr.trans (S' := gv_uI (gv_uR (gv_uR S 21 k (some i)) 22 k (some j)) 20 2 (gI (k + 1))) ⟨fun x y hx => ⟨?_, rfl, ?_⟩, rfl⟩ s3⟩
        · show (if x = 20 ∧ y = 2 then gI (k + 1) else S.1 x y) = _
          rw [if_neg (by omega)]
        · show (if x = 22 ∧ y = k then some j else if x = 21 ∧ y = k then some i else S.2.2.1 x y) = _
          rw [if_neg (by omega), if_neg (by omega)]
      by_cases w : (vs k).2.1 * (vs k).2.2.1 = 1
      · obtain ⟨j, j1, j2⟩ := v_at (S := gv_uR S 21 k (some i)) i2 0 hpos
        rw [if_pos w, fl_cv fl, ← gI_0]
        have j1' : f_Va_cellAt (some i) 0 (gv_ov h (gv_uR S 21 k (some i))) = some (some j, gv_ov h (gv_uR S 21 k (some i))) := j1
        rw [j1', gk_ca_some]
        refine b79 j ?_
        have : sp_1 (vs k) = (vs k).2.2.2 0 := if_pos w
        rw [this]
        exact j2
      · rw [if_neg w, gr_20_7]
        refine b79 25 ?_
        have : sp_1 (vs k) = gc_e 3 := if_neg w
        rw [this]
        exact h25
theorem a_take (S : gv_S) (first : Nat) (h25 : gp_cell b h 25 (gc_e 3)) (hn : n ≤ 8) (hfn : first + n ≤ 16) (hst : ∀ m, m < n → ∃ i : Nat, S.2.2.1 17 (first + m) = some i ∧ gp_val b h i (vs m)) : ∃ S', f_Ar_take (some 20) (some 17) (gI first) (gI n) (gv_ov h S) = some ((), gv_ov h (gA S' 0 [])) ∧ ga b h S' vs n ∧ gc_fr S S' := by
  unfold f_Ar_take
  rw [gI_0, gs_20_2]
  obtain ⟨S', s1, s2, s3⟩ := a_tloop (vs := vs) first h25 hn hfn gk_F 0 (gv_uI S 20 2 (gI 0)) (Nat.zero_le _) (by unfold gk_F; omega) ⟨rfl, fun m hm => absurd hm (Nat.not_lt_zero _)⟩ hst
  refine ⟨S', s1, ⟨hn, s2.1, s2.2⟩, gc_fr.trans (S' := gv_uI S 20 2 (gI 0)) ⟨fun x y hx => ⟨?_, rfl, rfl⟩, rfl⟩ s3⟩
  show (if x = 20 ∧ y = 2 then gI 0 else S.1 x y) = _
  rw [if_neg (by omega)]
end GPA
