/-! THE PURE PART: wording, what its methods make (class) -/
def vRc (b : Nat) (h : gk_H) (S : gv_S) (x : Option (Option Nat × gk_H)) (c : gp_C) (ck sk : Nat) : Prop := ∃ r h', x = some (some r, gv_ov h' S) ∧ gp_cell b h' r c ∧ gp_ext ck sk h h'
def okT (l : List Nat) : Prop := ∀ c ∈ l, 32 ≤ c ∧ c ≤ 126
theorem okT.app {l t : List Nat} (a : okT l) (c : okT t) : okT (l ++ t) := fun x hx => (List.mem_append.mp hx).elim (a x) (c x)
theorem okT.nil : okT [] := fun x hx => absurd hx List.not_mem_nil
theorem okT.sub {l : List Nat} (a : okT l) (x y : Nat) : okT ((l.drop x).take y) := fun c hc => a c (List.mem_of_mem_drop (List.mem_of_mem_take hc))
theorem okT.drop {l : List Nat} (a : okT l) (x : Nat) : okT (l.drop x) := fun c hc => a c (List.mem_of_mem_drop hc)
theorem okT.one {c : Nat} (h1 : 32 ≤ c) (h2 : c ≤ 126) : okT [c] := fun x hx => by
  rw [List.mem_singleton.mp hx]
  exact ⟨h1, h2⟩
def lp (l : List Nat) (x m : Int) : List Nat := (l.drop (max 0 (min x l.length)).toNat).take ((max (max 0 (min x l.length)) (min (x + m) l.length)).toNat - (max 0 (min x l.length)).toNat)
theorem lp_len (l : List Nat) (x m : Int) : (lp l x m).length ≤ l.length := by
  unfold lp
  rw [List.length_take, List.length_drop]
  omega
def isL (c : Nat) : Bool := decide (65 ≤ nl_g c ∧ nl_g c ≤ 90)
def sp_rec (f : Nat) : Bool → List Nat → List Nat
  | _, [] => []
  | g, c :: r => (if g = true then nl_g c else nl_sm c) :: sp_rec f (if f = 62 then !isL c else g) r
def sp_trm : Bool → List Nat → List Nat → List Nat
  | _, mz, [] => mz
  | d, mz, c :: r => if c = 32 then sp_trm (!mz.isEmpty) mz r else sp_trm false (mz ++ (if d = true then [32] else []) ++ [c]) r
def sp_rpt (l : List Nat) : Nat → List Nat
  | 0 => []
  | k + 1 => sp_rpt l k ++ l
def sp_sbt (old fr : List Nat) (all : Bool) (only : Int) : Nat → List Nat → List Nat → Nat → List Nat
  | 0, _, mz, _ => mz
  | m + 1, t, mz, fo => if t = [] ∨ 255 < mz.length then mz else if old ≠ [] ∧ old.isPrefixOf t = true then sp_sbt old fr all only m (t.drop old.length) (mz ++ (if all = true ∨ ((fo : Int) + 1 = only) then fr else old)) (fo + 1) else sp_sbt old fr all only m (t.drop 1) (mz ++ [t.getD 0 0]) fo
def sp_fnd (pt l : List Nat) : Nat → Nat → Option Nat
  | 0, _ => none
  | n + 1, p => if p + pt.length ≤ l.length ∧ pt.isPrefixOf (l.drop p) = true then some p else sp_fnd pt l n (p + 1)
section WOR
variable {b n : Nat} {h : gk_H} {S : gv_S} {f : Nat} {j i : Nat} {l t : List Nat}
theorem st_cv (a : gp_str b h i l) {α β : Type} (x : Option (α × gk_H)) (K : α → gk_H → Option β) : gk_cv (gv_ov h S) (some i) 0 x K = gk_ca x K := gp_cv (c := 0) a.2.1.1 a.2.2.1 x K
theorem f_minJ (x y : Int) (h1 : -9223372036854775808 ≤ x) (h2 : x < 9223372036854775808) (h3 : -9223372036854775808 ≤ y) (h4 : y < 9223372036854775808) (h : gk_H) : f_Ma_min_JJ (gJ x) (gJ y) h = some (gJ (min x y), h) := by
  unfold f_Ma_min_JJ f_Ma_min_JJ_b11
  rw [jte_gt _ _ _ _ h1 h2 h3 h4]
  by_cases z : y < x
  · rw [if_pos z, show min x y = y by omega]
  · rw [if_neg z, show min x y = x by omega]
theorem f_maxJ (x y : Int) (h1 : -9223372036854775808 ≤ x) (h2 : x < 9223372036854775808) (h3 : -9223372036854775808 ≤ y) (h4 : y < 9223372036854775808) (h : gk_H) : f_Ma_max_JJ (gJ x) (gJ y) h = some (gJ (max x y), h) := by
  unfold f_Ma_max_JJ f_Ma_max_JJ_b11
  rw [jte_lt _ _ _ _ h1 h2 h3 h4]
  by_cases z : x < y
  · rw [if_pos z, show max x y = y by omega]
  · rw [if_neg z, show max x y = x by omega]
theorem w_part (hc : gp_cs b h) (hi : gp_str b h i l) (hl : l.length ≤ 255) (x m : Int) (hx : -36028797018963968 ≤ x ∧ x ≤ 36028797018963968) (hm : -36028797018963968 ≤ m ∧ m ≤ 36028797018963968) : ∃ r h', f_Wo_part (some i) (gJ x) (gJ m) (gv_ov h S) = some (some r, gv_ov h' S) ∧ gp_str b h' r (lp l x m) ∧ gp_ext 2 259 h h' := by
  unfold f_Wo_part
  generalize ea : (max 0 (min x (l.length : Int))).toNat = A
  generalize eb : (max (max 0 (min x (l.length : Int))) (min (x + m) (l.length : Int))).toNat = B
  have a1 : (A : Int) = max 0 (min x (l.length : Int)) := by omega
  have b1 : (B : Int) = max (A : Int) (min (x + m) (l.length : Int)) := by omega
  obtain ⟨r, h', r1, r2, r3⟩ := s_sub (S := S) hc.1 hc.2.2.2.2.2.2 hi A B (by omega) (by omega) hc.2.1
  have e0 : (0 : Int64) = gJ 0 := gJl_0
  rw [st_cv hi, s_len hc.1 hi, gk_ca_some, gI_toJ _ (by omega), f_minJ _ _ (by omega) (by omega) (by omega) (by omega), gk_ca_some, e0, f_maxJ _ _ (by omega) (by omega) (by omega) (by omega), gk_ca_some, ← a1, gJ_toI _ (by omega), gk_let_eq, gJ_add, f_minJ _ _ (by omega) (by omega) (by omega) (by omega), gk_ca_some, gI_toJ _ (by omega), f_maxJ _ _ (by omega) (by omega) (by omega) (by omega), gk_ca_some, ← b1, gJ_toI _ (by omega), gk_let_eq, st_cv hi, r1, gk_ca_some]
  refine ⟨r, h', rfl, ?_, r3.le (by decide) (by omega)⟩
  unfold lp
  rw [ea, eb]
  exact r2
theorem w_txt (hc : gp_cs b h) (hi : gp_str b h i l) (hl : okT l) : vRc b h S (f_Va_ofText (some i) (gv_ov h S)) (gc_txt l) 1 7 := v_txt hc hi hl
theorem vRc.le {x : Option (Option Nat × gk_H)} {c : gp_C} {k s k' s' : Nat} (q : vRc b h S x c k s) (h1 : k ≤ k') (h2 : s ≤ s') : vRc b h S x c k' s' := by
  obtain ⟨r, h', q1, q2, q3⟩ := q
  exact ⟨r, h', q1, q2, q3.le h1 h2⟩
theorem vRc.pre {x : Option (Option Nat × gk_H)} {h' : gk_H} {c : gp_C} {k s k' s' : Nat} (e : gp_ext k s h h') (q : vRc b h' S x c k' s') : vRc b h S x c (k + k') (s + s') := by
  obtain ⟨r, h'', q1, q2, q3⟩ := q
  exact ⟨r, h'', q1, q2, e.trans q3⟩
theorem vr_c {x : Option (Option Nat × gk_H)} {c : gp_C} (q : vR b h S x c) : vRc b h S x c 1 7 := q
theorem w_side (hc : gp_cs b h) (hi : gp_str b h i l) (hl : l.length ≤ 255) (ok : okT l) (m : Int) (hm : -9007199254740992 < m ∧ m < 9007199254740992) (hf : f = 57 ∨ f = 58) : vRc b h S (f_Wo_side (gI f) (some i) (gJ m) (gv_ov h S)) (if m < 0 then gc_e 3 else gc_txt (lp l (if f = 57 then 0 else max 0 (l.length - m)) m)) 3 266 := by
  unfold f_Wo_side f_Wo_side_b32
  simp only [ca_id]
  rw [show (0 : Int64) = gJ 0 from gJl_0, jte_ge _ _ _ _ (by omega) (by omega) (by omega) (by omega)]
  by_cases z : m < 0
  · rw [if_neg (show ¬ (0 : Int) ≤ m by omega), if_pos z]
    exact (vr_c (vr_err hc 3 (by decide) (by decide))).le (by decide) (by decide)
  · rw [if_pos (show (0 : Int) ≤ m by omega), if_neg z, gI_lit 57, ite_eq _ _ _ _ (by omega) (by decide)]
    have fin : ∀ x : Int, 0 ≤ x → x ≤ 255 → vRc b h S (gk_ca (f_Wo_part (some i) (gJ x) (gJ m) (gv_ov h S)) fun x1 h1 => f_Va_ofText x1 h1) (gc_txt (lp l x m)) 3 266 := by
      intro x h1 h2
      obtain ⟨r, h', r1, r2, r3⟩ := w_part (S := S) hc hi hl x m (by omega) (by omega)
      rw [r1, gk_ca_some]
      exact vRc.pre r3 (w_txt (hc.ext r3) r2 (ok.sub _ _))
    by_cases z2 : f = 57
    · rw [if_pos z2, if_pos z2]
      exact fin 0 (by omega) (by omega)
    · rw [if_neg z2, if_neg z2, st_cv hi, s_len hc.1 hi, gk_ca_some, gI_toJ _ (by omega), gJ_sub, f_maxJ _ _ (by omega) (by omega) (by omega) (by omega), gk_ca_some]
      exact fin _ (by omega) (by omega)
theorem w_middle (hc : gp_cs b h) (hi : gp_str b h i l) (hl : l.length ≤ 255) (ok : okT l) (p m : Int) (hp : -9007199254740992 < p ∧ p < 9007199254740992) (hm : -9007199254740992 < m ∧ m < 9007199254740992) : vRc b h S (f_Wo_middle (some i) (gJ p) (gJ m) (gv_ov h S)) (if p < 1 ∨ m < 0 then gc_e 3 else gc_txt (lp l (p - 1) m)) 3 266 := by
  unfold f_Wo_middle f_Wo_middle_b12
  simp only [ca_id]
  rw [show (0 : Int64) = gJ 0 from gJl_0, show (1 : Int64) = gJ 1 from gJl_1, jte_lt _ _ _ _ (by omega) (by omega) (by omega) (by omega), jte_ge _ _ _ _ (by omega) (by omega) (by omega) (by omega), gJ_sub]
  have e3 := (vr_c (vr_err (S := S) hc 3 (by decide) (by decide))).le (k' := 3) (s' := 266) (by decide) (by decide)
  by_cases z : p < 1
  · rw [if_pos z, if_pos (Or.inl z)]
    exact e3
  · by_cases z2 : m < 0
    · rw [if_neg z, if_neg (show ¬ (0 : Int) ≤ m by omega), if_pos (Or.inr z2)]
      exact e3
    · obtain ⟨r, h', r1, r2, r3⟩ := w_part (S := S) hc hi hl (p - 1) m (by omega) (by omega)
      rw [if_neg z, if_pos (show (0 : Int) ≤ m by omega), if_neg (show ¬ (p < 1 ∨ m < 0) by omega), r1, gk_ca_some]
      exact vRc.pre r3 (w_txt (hc.ext r3) r2 (ok.sub _ _))
theorem lb_end {h0 : gk_H} {s m c0 s0 : Nat} {mz : List Nat} (q : gp_lb h0 h s m c0 s0 mz) (hm : mz.length ≤ m) (hc : gp_cs b h0) (ok : okT mz) : ∃ r h', (gk_cv (gv_ov h S) (some s) 1 (f_SB_toString (some s) (gv_ov h S)) fun x1 h1 => f_Va_ofText x1 h1) = some (some r, gv_ov h' S) ∧ gp_cell b h' r (gc_txt mz) ∧ gp_ext (c0 + (16 + 2 * m) / 18 + 3) (s0 + 2 * (16 + 2 * m) + 11 + m) h0 h' := by
  obtain ⟨r, h1, c1, c2, c3, c4⟩ := lb_str (S := S) q b hc.2.1 hm
  obtain ⟨r2, h2, d1, d2, d3⟩ := v_txt (S := S) (hc.ext c4) c2 ok
  rw [lb_cv q, c1, gk_ca_some, d1]
  exact ⟨r2, h2, rfl, d2, (c4.trans d3).le (by omega) (by omega)⟩
theorem nl_g_ok {c : Nat} (h1 : 32 ≤ c) (h2 : c ≤ 126) : 32 ≤ nl_g c ∧ nl_g c ≤ 126 := by
  unfold nl_g
  split <;> omega
theorem nl_sm_ok {c : Nat} (h1 : 32 ≤ c) (h2 : c ≤ 126) : 32 ≤ nl_sm c ∧ nl_sm c ≤ 126 := by
  unfold nl_sm
  split <;> omega
theorem w_isLetter {c : Nat} (hc : c < 128) (h : gk_H) : f_Le_isLetter (gI c) h = some (gB (isL c), h) := by
  have hg := nl_g_lt hc
  unfold f_Le_isLetter f_Le_isLetter_b22 f_Le_isLetter_b23 isL
  rw [n_great c hc, gk_ca_some, n_great c hc, gk_ca_some, gI_lit 65, gI_lit 90, ite_lt _ _ _ _ (by omega) (by decide), ite_lt _ _ _ _ (by decide) (by omega), nb0, nb1]
  by_cases z : nl_g c < 65
  · rw [if_pos z, decide_eq_false (by omega)]
    rfl
  · rw [if_neg z]
    by_cases z2 : 90 < nl_g c
    · rw [if_pos z2, decide_eq_false (by omega)]
      rfl
    · rw [if_neg z2, decide_eq_true (by omega)]
      rfl
theorem w_recast (hc : gp_cs b h) (hi : gp_str b h i l) (hl : l.length ≤ 255) (ok : okT l) (hf : f = 60 ∨ f = 61 ∨ f = 62) : vRc b h S (f_Wo_recast (gI f) (some i) (gv_ov h S)) (gc_txt (sp_rec f (!decide (f = 61)) l)) 34 1400 := by
  obtain ⟨g1, n1, n2⟩ := lb_new (S := S) (h0 := h) hc.1.1 hc.1 (gp_ext.refl h) 255
  have loop : ∀ (t p mz : List Nat) (fu : Nat) (g : Bool) (h1 : gk_H), l = p ++ t → t.length < fu → mz.length = p.length → okT mz → gp_lb h h1 h.1 255 (0 + 2) 0 mz → vRc b h S (f_Wo_recast_b23 fu (gI f) (some i) (some h.1) (gB g) (gI p.length) (gv_ov h1 S)) (gc_txt (mz ++ sp_rec f g t)) 34 1400 := by
    intro t
    induction t with
    | nil =>
      intro p mz fu g h1 hp hfu hm okm q
      obtain ⟨fu, rfl⟩ : ∃ f, fu = f + 1 := ⟨fu - 1, by omega⟩
      have hpl : l.length = p.length := by rw [hp]; simp
      obtain ⟨r, h2, e1, e2, e3⟩ := lb_end (S := S) q (by omega) hc okm
      rw [f_Wo_recast_b23]
      simp only [ca_id]
      rw [st_cv (q.str hi), s_len q.st (q.str hi), gk_ca_some, ite_le _ _ _ _ (by omega) (by omega), if_pos (by omega), e1, show sp_rec f g [] = [] from rfl, List.append_nil]
      exact ⟨r, h2, rfl, e2, e3.le (by decide) (by decide)⟩
    | cons c t ih =>
      intro p mz fu g h1 hp hfu hm okm q
      obtain ⟨fu, rfl⟩ : ∃ f, fu = f + 1 := ⟨fu - 1, by omega⟩
      rw [List.length_cons] at hfu
      have hpl : l.length = p.length + (t.length + 1) := by rw [hp]; simp
      obtain ⟨c1, c2⟩ := ok c (by rw [hp]; simp)
      have hg : l.getD p.length 0 = c := by rw [hp]; exact gp_mid p t c
      have go : ∀ (d : Nat) (g' : Bool) (h2 : gk_H), 32 ≤ d → d ≤ 126 → gp_lb h h2 h.1 255 (0 + 2) 0 (mz ++ [d]) → vRc b h S (f_Wo_recast_b23 fu (gI f) (some i) (some h.1) (gB g') (gI (p.length + 1)) (gv_ov h2 S)) (gc_txt (mz ++ d :: sp_rec f g' t)) 34 1400 := by
        intro d g' h2 d1 d2 q2
        have := ih (p ++ [c]) (mz ++ [d]) fu g' h2 (by rw [hp]; simp) (by omega) (by simp [hm]) (okm.app (okT.one d1 d2)) q2
        rw [List.length_append, List.length_singleton, List.append_assoc, List.singleton_append] at this
        exact this
      have b58 : ∀ d : Nat, 32 ≤ d → d ≤ 126 → d = (if g = true then nl_g c else nl_sm c) → vRc b h S (f_Wo_recast_b58 (f_Wo_recast_b23 fu) (gI f) (some i) (some h.1) (gB g) (gI p.length) (gI c) (some h.1) (gI d) (gv_ov h1 S)) (gc_txt (mz ++ sp_rec f g (c :: t))) 34 1400 := by
        intro d d1 d2 hd
        obtain ⟨h2, a1, a2⟩ := lb_appC (S := S) q d (by omega) (by omega) (by decide)
        unfold f_Wo_recast_b58 f_Wo_recast_b81 f_Wo_recast_b82
        rw [lb_cv q, a1, gk_ca_some, gI_lit 62, ite_eq _ _ _ _ (by omega) (by decide), w_isLetter (by omega), gk_ca_some, ite_B, gk_let_eq, gk_let_eq, gk_let_eq, show gI p.length + (1 : Int32) = gI (p.length + 1) from gI_add _ 1, sp_rec, ← hd]
        by_cases z : f = 62
        · rw [if_pos z, if_pos z]
          cases isL c
          · rw [if_neg (by decide)]
            exact go d true h2 d1 d2 a2
          · rw [if_pos rfl]
            exact go d false h2 d1 d2 a2
        · rw [if_neg z, if_neg z]
          exact go d g h2 d1 d2 a2
      rw [f_Wo_recast_b23]
      dsimp only
      rw [st_cv (q.str hi), s_len q.st (q.str hi), gk_ca_some, ite_le _ _ _ _ (by omega) (by omega), if_neg (by omega), st_cv (q.str hi), s_charAt q.st (q.str hi) (by omega), gk_ca_some, hg, ite_B, n_great c (by omega), n_small c (by omega), gk_ca_some, gk_ca_some]
      cases g
      · rw [if_neg (by decide)]
        exact b58 _ (nl_sm_ok c1 c2).1 (nl_sm_ok c1 c2).2 rfl
      · rw [if_pos rfl]
        exact b58 _ (nl_g_ok c1 c2).1 (nl_g_ok c1 c2).2 rfl
  unfold f_Wo_recast f_Wo_recast_b19
  rw [n1, gI_lit 61, ite_eq _ _ _ _ (by omega) (by decide)]
  by_cases z : f = 61
  · have := loop l [] [] gk_F false g1 rfl (by unfold gk_F; omega) rfl okT.nil n2
    rw [if_pos z, decide_eq_true z]
    exact this
  · have := loop l [] [] gk_F true g1 rfl (by unfold gk_F; omega) rfl okT.nil n2
    rw [if_neg z, decide_eq_false z]
    exact this
theorem w_trimmed (hc : gp_cs b h) (hi : gp_str b h i l) (hl : l.length ≤ 255) (ok : okT l) : vRc b h S (f_Wo_trimmed (some i) (gv_ov h S)) (gc_txt (sp_trm false [] l)) 70 2800 := by
  obtain ⟨g1, n1, n2⟩ := lb_new (S := S) (h0 := h) hc.1.1 hc.1 (gp_ext.refl h) 512
  have loop : ∀ (t p mz : List Nat) (fu : Nat) (g : Bool) (h1 : gk_H), l = p ++ t → t.length < fu → mz.length ≤ 2 * p.length → okT mz → gp_lb h h1 h.1 512 (0 + 2) 0 mz → vRc b h S (f_Wo_trimmed_b12 fu (some i) (some h.1) (gB g) (gI p.length) (gv_ov h1 S)) (gc_txt (sp_trm g mz t)) 70 2800 := by
    intro t
    induction t with
    | nil =>
      intro p mz fu g h1 hp hfu hm okm q
      obtain ⟨fu, rfl⟩ : ∃ f, fu = f + 1 := ⟨fu - 1, by omega⟩
      have hpl : l.length = p.length := by rw [hp]; simp
      obtain ⟨r, h2, e1, e2, e3⟩ := lb_end (S := S) q (by omega) hc okm
      rw [f_Wo_trimmed_b12]
      simp only [ca_id]
      rw [st_cv (q.str hi), s_len q.st (q.str hi), gk_ca_some, ite_le _ _ _ _ (by omega) (by omega), if_pos (by omega), e1]
      exact ⟨r, h2, rfl, e2, e3.le (by decide) (by decide)⟩
    | cons c t ih =>
      intro p mz fu g h1 hp hfu hm okm q
      obtain ⟨fu, rfl⟩ : ∃ f, fu = f + 1 := ⟨fu - 1, by omega⟩
      rw [List.length_cons] at hfu
      have hpl : l.length = p.length + (t.length + 1) := by rw [hp]; simp
      obtain ⟨c1, c2⟩ := ok c (by rw [hp]; simp)
      have hg : l.getD p.length 0 = c := by rw [hp]; exact gp_mid p t c
      have go : ∀ (mz' : List Nat) (g' : Bool) (h2 : gk_H), mz'.length ≤ mz.length + 2 → okT mz' → gp_lb h h2 h.1 512 (0 + 2) 0 mz' → vRc b h S (f_Wo_trimmed_b12 fu (some i) (some h.1) (gB g') (gI (p.length + 1)) (gv_ov h2 S)) (gc_txt (sp_trm g' mz' t)) 70 2800 := by
        intro mz' g' h2 d1 d2 q2
        have := ih (p ++ [c]) mz' fu g' h2 (by rw [hp]; simp) (by omega) (by simp; omega) d2 q2
        rw [List.length_append, List.length_singleton] at this
        exact this
      rw [f_Wo_trimmed_b12]
      unfold f_Wo_trimmed_b46 f_Wo_trimmed_b61 f_Wo_trimmed_b70
      dsimp only
      rw [st_cv (q.str hi), s_len q.st (q.str hi), gk_ca_some, ite_le _ _ _ _ (by omega) (by omega), if_neg (by omega), st_cv (q.str hi), s_charAt q.st (q.str hi) (by omega), gk_ca_some, hg, gI_lit 32, ite_eq _ _ _ _ (by omega) (by decide), sp_trm]
      by_cases z : c = 32
      · have zl : ∀ {β : Type} (x y : β), (if gI mz.length ≤ (0 : Int32) then x else y) = if mz.length ≤ 0 then x else y := fun x y => ite_le x y _ 0 (by omega) (by decide)
        rw [if_pos z, if_pos z, lb_cv q, lb_len q, gk_ca_some, zl, gk_let_eq, gk_let_eq, show gI p.length + (1 : Int32) = gI (p.length + 1) from gI_add _ 1]
        cases mz with
        | nil =>
          rw [if_pos (show ([] : List Nat).length ≤ 0 from Nat.le_refl _)]
          exact go [] false h1 (by omega) okm q
        | cons x mz =>
          rw [if_neg (by rw [List.length_cons]; omega)]
          exact go (x :: mz) true h1 (by omega) okm q
      · rw [if_neg z, if_neg z, ite_B]
        cases g
        · obtain ⟨h2, a1, a2⟩ := lb_appC (S := S) q c (by omega) (by omega) (by decide)
          rw [if_neg (by decide), if_neg (by decide), lb_cv q, a1, gk_ca_some, gk_let_eq, show gI p.length + (1 : Int32) = gI (p.length + 1) from gI_add _ 1, List.append_nil]
          exact go (mz ++ [c]) false h2 (by simp) (okm.app (okT.one c1 c2)) a2
        · obtain ⟨h2, a1, a2⟩ := lb_appC (S := S) q 32 (by omega) (by omega) (by decide)
          obtain ⟨h3, b1, b2⟩ := lb_appC (S := S) a2 c (by omega) (by simp; omega) (by decide)
          rw [if_pos rfl, if_pos rfl, lb_cv q, a1, gk_ca_some, lb_cv a2, b1, gk_ca_some, gk_let_eq, show gI p.length + (1 : Int32) = gI (p.length + 1) from gI_add _ 1]
          exact go (mz ++ [32] ++ [c]) false h3 (by simp) ((okm.app (okT.one (by decide) (by decide))).app (okT.one c1 c2)) b2
  unfold f_Wo_trimmed
  rw [n1]
  exact loop l [] [] gk_F false g1 rfl (by unfold gk_F; omega) (Nat.zero_le _) okT.nil n2
end WOR
