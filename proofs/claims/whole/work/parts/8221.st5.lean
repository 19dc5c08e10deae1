/-! THE PURE PART: the class's stack, texts pushed, arrays -/
section ST5
variable {b b' cap n : Nat} {h h' : gk_H} {S : gv_S} {L : List gp_V} {u : List Nat} {i j : Nat} {V : gp_V} {l : List Nat}
theorem t_clear (q : cs_st b cap h S L u) : ∃ h' b' cap', (∀ {β : Type} (K : Unit → gk_H → Option β), gk_cv (gv_ov h S) (some 18) 1 (f_SB_setLength (some 18) (0 : Int32) (gv_ov h S)) K = K () (gv_ov h' S)) ∧ cs_st b' cap' h' S L [] ∧ gp_gw 0 0 cap cap' h h' := by
  have q1 := q.2.1
  obtain ⟨h1, b1, cap1, e1, e2, e3, e4⟩ := b_ens (S := S) q.2.2.1.1 q1.1 0 (by omega) (by omega)
  have q2 : cs_st b1 cap1 h1 S L u := q.mv e4.keep e4.2.2.2.2.2.1 e2 q1.2.1 q1.2.2.1 (by have := e4.2.2.2.2.1; omega)
  have s1 := e2
  obtain ⟨w1, w2, w3, w4, w5, w6, w7, w8, w9, w10, w11, w12, w13, w14, w15, w16⟩ := e2
  have hsa : b1 ≠ 18 := fun z => by rw [z, w7] at w11; exact absurd w11 (by decide)
  have gw : gp_gw 0 0 cap cap1 h h1 := by
    obtain ⟨g1, g2, g3, g4, -, -, g7⟩ := e4
    have hb16 := q1.1.2.2.2.2.2.1
    exact ⟨by omega, by omega, g4, fun i hi hl => ⟨by omega, g7 i hl (by omega) (by omega)⟩⟩
  -- the object 18 with other counts
  have put : ∀ g : gk_H, g.1 = h1.1 → g.2.1 = h1.2.1 → (∀ x, x ≠ 18 → g.2.2 x = h1.2.2 x) → (g.2.2 18).1 = 11 → (g.2.2 18).2.2 0 = va_rf (some b1) → (g.2.2 18).2.2 1 = .int 0 → (g.2.2 18).2.2 3 = .int (gI 0) → cs_st b1 cap1 g S L [] ∧ gp_gw 0 0 cap cap1 h g := by
    intro g g1 g2 g3 g4 g5 g6 g7
    have k : gp_keep b1 h1 g := ⟨by omega, fun x hx h2 h3 => g3 x h2⟩
    have sb : gp_sb g 18 b1 cap1 [] := by
      unfold gp_sb
      rw [g3 b1 hsa]
      exact ⟨by omega, by omega, w3, w4, w5, w6, g4, g5, g6, g7, w11, w12, Nat.zero_le _, w14, fun k hk => absurd hk (Nat.not_lt_zero k), w16⟩
    refine ⟨q2.mv k (Or.inl rfl) sb (Nat.zero_le _) okT.nil q2.2.1.2.2.2, ?_⟩
    obtain ⟨p1, p2, p3, p4⟩ := gw
    exact ⟨by omega, by omega, p3, fun i hi hl => ⟨by have := (p4 i hi hl).1; omega, (g3 i (by omega)).trans (p4 i hi hl).2⟩⟩
  have e1' : f_AB_ensureCapacityInternal (some 18) (0 : Int32) (gv_ov h S) = some ((), gv_ov h1 S) := e1
  have hu := q1.2.1
  by_cases z : u.length ≤ 0
  · refine ⟨gk_upd h1 18 (11, (h1.2.2 18).2.1, gk_put (h1.2.2 18).2.2 3 (.int (0 : Int32))), b1, cap1, fun K => ?_, ?_⟩
    · unfold f_SB_setLength f_AB_setLength f_AB_setLength_b76
      rw [gp_cv q1.1.2.2.1 q1.1.2.2.2.2.2.2.1, gp_cv q1.1.2.2.1 q1.1.2.2.2.2.2.2.1, if_pos (by decide), gp_cv q1.1.2.2.1 q1.1.2.2.2.2.2.2.1, e1', gk_ca_some, gp_getI w3 w7 w10, gp_getI w3 w7 w10, show (0 : Int32) = gI 0 from rfl, ite_le _ _ _ _ (by decide) (by omega), if_pos (Nat.zero_le _), ite_le _ _ _ _ (by omega) (by decide), if_pos z, gp_set w3 (by decide) w7 rfl]
      rfl
    · refine put _ rfl rfl (fun x hx => gp_upd_ne _ _ _ _ hx) ?_ ?_ ?_ ?_
      · rw [gp_upd_at]
      · rw [gp_upd_at]
        show gk_put (h1.2.2 18).2.2 3 (.int (0 : Int32)) 0 = _
        rw [gp_put_ne _ _ _ _ (by decide)]
        exact w8
      · rw [gp_upd_at]
        show gk_put (h1.2.2 18).2.2 3 (.int (0 : Int32)) 1 = _
        rw [gp_put_ne _ _ _ _ (by decide)]
        exact w9
      · rw [gp_upd_at]
        show gk_put (h1.2.2 18).2.2 3 (.int (0 : Int32)) 3 = _
        rw [gp_put_at]
        rfl
  · have t7 : ((gk_upd h1 18 (10 + 1, (h1.2.2 18).2.1, gk_put (h1.2.2 18).2.2 2 (.int (1 : Int32)))).2.2 18).1 = 10 + 1 := by rw [gp_upd_at]
    refine ⟨gk_upd (gk_upd h1 18 (10 + 1, (h1.2.2 18).2.1, gk_put (h1.2.2 18).2.2 2 (.int (1 : Int32)))) 18 (10 + 1, ((gk_upd h1 18 (10 + 1, (h1.2.2 18).2.1, gk_put (h1.2.2 18).2.2 2 (.int (1 : Int32)))).2.2 18).2.1, gk_put ((gk_upd h1 18 (10 + 1, (h1.2.2 18).2.1, gk_put (h1.2.2 18).2.2 2 (.int (1 : Int32)))).2.2 18).2.2 3 (.int (0 : Int32))), b1, cap1, fun K => ?_, ?_⟩
    · unfold f_SB_setLength f_AB_setLength f_AB_setLength_b76
      rw [gp_cv q1.1.2.2.1 q1.1.2.2.2.2.2.2.1, gp_cv q1.1.2.2.1 q1.1.2.2.2.2.2.2.1, if_pos (by decide), gp_cv q1.1.2.2.1 q1.1.2.2.2.2.2.2.1, e1', gk_ca_some, gp_getI w3 w7 w10, gp_getI w3 w7 w10, show (0 : Int32) = gI 0 from rfl, ite_le _ _ _ _ (by decide) (by omega), if_pos (Nat.zero_le _), ite_le _ _ _ _ (by omega) (by decide), if_neg z, gp_set w3 (by decide) w7 rfl, gp_set w3 (by decide) t7 rfl]
      rfl
    · refine put _ rfl rfl (fun x hx => by rw [gp_upd_ne _ _ _ _ hx, gp_upd_ne _ _ _ _ hx]) ?_ ?_ ?_ ?_
      · rw [gp_upd_at]
      · rw [gp_upd_at, gp_upd_at]
        show gk_put (gk_put (h1.2.2 18).2.2 2 (.int (1 : Int32))) 3 (.int (0 : Int32)) 0 = _
        rw [gp_put_ne _ _ _ _ (by decide), gp_put_ne _ _ _ _ (by decide)]
        exact w8
      · rw [gp_upd_at, gp_upd_at]
        show gk_put (gk_put (h1.2.2 18).2.2 2 (.int (1 : Int32))) 3 (.int (0 : Int32)) 1 = _
        rw [gp_put_ne _ _ _ _ (by decide), gp_put_ne _ _ _ _ (by decide)]
        exact w9
      · rw [gp_upd_at, gp_upd_at]
        show gk_put (gk_put (h1.2.2 18).2.2 2 (.int (1 : Int32))) 3 (.int (0 : Int32)) 3 = _
        rw [gp_put_at]
        rfl
def sp_text (L : List gp_V) (u : List Nat) : Sum Unit String × List gp_V × List Nat := if L.length < 16 then (.inl (), L ++ [gV_1 (gc_t u)], []) else (.inr eST, L, u)
theorem t_text (q : cs_st b cap h S L u) : cM cap h S (f_A_text (some 16) (gv_ov h S)) (sp_text L u).1 (sp_text L u).2.1 (sp_text L u).2.2 4 300 := by
  have q1 := q.2.1
  obtain ⟨h1, e1, e2, e3⟩ := b_str (S := S) q.2.2.1.1 q1.1 b q.2.2.1.2.1
  have qa := q.ext e3
  obtain ⟨r, h2, w1, w2, w3⟩ := v_txt (S := S) qa.2.2.1 e2 q1.2.2.1
  rw [show gc_txt u = gc_t u from if_pos q1.2.1] at w2
  have qb := qa.ext w3
  obtain ⟨h3, S3, b3, cap3, p1, p2, p3, p4⟩ := t_push qb w2.val
  have g12 : gp_gw 3 266 cap cap h h2 := (((gp_gw.of e3).trans (gp_gw.of w3))).le (by omega) (by have := q1.2.1; omega)
  unfold f_A_text
  rw [gr_16_2, gp_cv q1.1.2.2.1 q1.1.2.2.2.2.2.2.1, e1, gk_ca_some, w1, gk_ca_some, p1]
  unfold sp_text
  unfold sp_push at p2 ⊢
  by_cases z : L.length < 16
  · rw [if_pos z] at p2
    rw [if_pos z, if_pos z, gx_l, gr_16_2]
    obtain ⟨h4, b4, cap4, k1, k2, k3⟩ := t_clear p2
    rw [k1]
    exact ⟨h4, S3, b4, cap4, rfl, k2, p3, ((g12.trans p4).trans k3).le (by decide) (by decide)⟩
  · rw [if_neg z] at p2
    rw [if_neg z, if_neg z, gx_r]
    exact ⟨h3, S3, b3, cap3, rfl, p2, p3, (g12.trans p4).le (by decide) (by decide)⟩
def anyA (L : List gp_V) : Nat → Nat → Bool
  | 0, _ => false
  | m + 1, k => decide ((L.getD k gV_d).1 = 5) || anyA L m (k + 1)
theorem anyA_f {L : List gp_V} : ∀ {m k : Nat}, anyA L m k = false → ∀ j, k ≤ j → j < k + m → (L.getD j gV_d).1 ≠ 5
  | 0, k, _, j, h1, h2 => by omega
  | m + 1, k, h, j, h1, h2 => by
    rw [anyA, Bool.or_eq_false_iff] at h
    by_cases z : j = k
    · rw [z]
      exact of_decide_eq_false h.1
    · exact anyA_f h.2 j (by omega) (by omega)
def sp_arrV (L : List gp_V) (R C : Nat) : gp_V := (5, R, C, fun m => (L.getD (L.length - R * C + m) gV_d).2.2.2 0)
def sp_array (L : List gp_V) (r c : Int32) : Sum Unit String × List gp_V :=
  if r < 1 ∨ c < 1 then (.inr eAR, L)
  else if gI L.length < r ∨ gI L.length < c ∨ L.length < r.toNatClampNeg * c.toNatClampNeg then (.inr eAR, L)
  else if anyA L (r.toNatClampNeg * c.toNatClampNeg) (L.length - r.toNatClampNeg * c.toNatClampNeg) = true then (.inr eAR, L)
  else (.inl (), L.take (L.length - r.toNatClampNeg * c.toNatClampNeg) ++ [sp_arrV L r.toNatClampNeg c.toNatClampNeg])
theorem t_array118 (q : cs_st b cap h S L u) (R C : Nat) (hR : 1 ≤ R) (hC : 1 ≤ C) (hL : R * C ≤ L.length) (hany : anyA L (R * C) (L.length - R * C) = false) : ∀ (r k fu : Nat) (g : gk_H), k + r = R * C → r < fu → gp_ext 1 16 h g → g.1 = h.1 + 1 → (g.2.2 h.1).1 = 7 → (g.2.2 h.1).2.1 = R * C → (∀ m, m < k → ∃ j : Nat, (g.2.2 h.1).2.2 m = va_rf (some j) ∧ gp_cell b h j ((sp_arrV L R C).2.2.2 m)) → cM cap h S (f_A_array_b118 fu (some 16) (gI R) (gI C) (gI (L.length - R * C)) (some h.1) (gI k) (gv_ov g S)) (.inl ()) (L.take (L.length - R * C) ++ [sp_arrV L R C]) u 4 40 := by
  have hL16 := q.1.1
  have h44 := q.2.2.1.1.1
  have hbl := q.2.2.1.2.1
  have f44 : gv_fx h.1 = false := gv_fx_hi h44
  have hpos : 1 ≤ R * C := Nat.mul_pos hR hC
  intro r
  induction r with
  | zero =>
    intro k fu g hk hf he hg1 ht hn hcells
    obtain ⟨fu, rfl⟩ : ∃ f, fu = f + 1 := ⟨fu - 1, by omega⟩
    have qg := q.ext he
    have okV : gp_okV (sp_arrV L R C) := by
      refine ⟨hR, hC, by show R * C ≤ 16; omega, fun m hm => ?_, Or.inl rfl⟩
      obtain ⟨j, j1, j2⟩ := hcells m (by have : m < R * C := hm; omega)
      exact j2.1
    obtain ⟨x, h2, x1, x2, x3⟩ := v_cells (S := S) qg.2.2.1 okV rfl (a := h.1) (by omega) (gp_im_hi h44 (by omega)) ht hn (fun m hm => by
      obtain ⟨j, j1, j2⟩ := hcells m (by have : m < R * C := hm; omega)
      exact ⟨j, j1, j2.ext he⟩)
    have x1' : f_Va_ofCells (gI R) (gI C) (some h.1) (gv_ov g S) = some (some x, gv_ov h2 S) := x1
    have := t_replace (qg.ext x3) (R * C) hL (by omega) x2
    rw [f_A_array_b118]
    dsimp only
    rw [gp_len f44 (by rw [ht]; decide), hn, ite_le _ _ _ _ (by omega) (by omega), if_pos (by omega), gp_len f44 (by rw [ht]; decide), hn, x1', gk_ca_some, gx_id]
    exact (cM.pre he (cM.pre x3 this)).le (by decide) (by decide)
  | succ r ih =>
    intro k fu g hk hf he hg1 ht hn hcells
    obtain ⟨fu, rfl⟩ : ∃ f, fu = f + 1 := ⟨fu - 1, by omega⟩
    obtain ⟨j, j1, j2⟩ := q.1.2.2 (L.length - R * C + k) (by omega)
    have hn5 := anyA_f hany (L.length - R * C + k) (by omega) (by omega)
    have hcell : gp_cell b h j ((sp_arrV L R C).2.2.2 k) := by
      rcases j2.2 with ⟨z, w⟩ | ⟨z, w⟩
      · exact w
      · exact absurd z hn5
    rw [f_A_array_b118]
    dsimp only
    rw [gp_len f44 (by rw [ht]; decide), hn, ite_le _ _ _ _ (by omega) (by omega), if_neg (by omega), gr_16_0, gI_add, ga_17 (by omega), j1, gp_ast f44 (by omega) ht (by omega) (by omega) (j2.ext he).may, gk_let_eq, show gI k + (1 : Int32) = gI (k + 1) from gI_add k 1]
    refine ih (k + 1) fu _ (by omega) (by omega) ⟨he.1, he.2.1, he.2.2.1, fun x hx => ?_⟩ hg1 ?_ ?_ fun m hm2 => ?_
    · rw [gp_upd_ne _ _ _ _ (by omega)]
      exact he.2.2.2 x hx
    · rw [gp_upd_at]
    · rw [gp_upd_at]
      exact hn
    · rw [gp_upd_at]
      show ∃ j : Nat, gk_put _ k _ m = _ ∧ _
      by_cases z : m = k
      · rw [z, gp_put_at]
        exact ⟨j, rfl, hcell⟩
      · rw [gp_put_ne _ _ _ _ z]
        exact hcells m (by omega)
theorem t_array68 (q : cs_st b cap h S L u) (R C : Nat) (hR : 1 ≤ R) (hC : 1 ≤ C) (hL : R * C ≤ L.length) : cM cap h S (f_A_array_b68 gk_F (some 16) (gI R) (gI C) (gI (L.length - R * C)) (gI (L.length - R * C)) (gv_ov h S)) (if anyA L (R * C) (L.length - R * C) = true then (.inr eAR, L) else ((.inl () : Sum Unit String), L.take (L.length - R * C) ++ [sp_arrV L R C])).1 (if anyA L (R * C) (L.length - R * C) = true then ((.inr eAR : Sum Unit String), L) else (.inl (), L.take (L.length - R * C) ++ [sp_arrV L R C])).2 u 4 40 := by
  have hL16 := q.1.1
  have a2 := q.1.2.1
  have h44 := q.2.2.1.1.1
  have loop : ∀ (m k fu : Nat), k + m = L.length → m < fu → (anyA L m k = false → anyA L (R * C) (L.length - R * C) = false) → (anyA L m k = true → anyA L (R * C) (L.length - R * C) = true) → cM cap h S (f_A_array_b68 fu (some 16) (gI R) (gI C) (gI (L.length - R * C)) (gI k) (gv_ov h S)) (if anyA L (R * C) (L.length - R * C) = true then (.inr eAR, L) else ((.inl () : Sum Unit String), L.take (L.length - R * C) ++ [sp_arrV L R C])).1 (if anyA L (R * C) (L.length - R * C) = true then ((.inr eAR : Sum Unit String), L) else (.inl (), L.take (L.length - R * C) ++ [sp_arrV L R C])).2 u 4 40 := by
    intro m
    induction m with
    | zero =>
      intro k fu hk hf i1 i2
      obtain ⟨fu, rfl⟩ : ∃ f, fu = f + 1 := ⟨fu - 1, by omega⟩
      have hany := i1 rfl
      rw [f_A_array_b68]
      dsimp only
      rw [gg_16_1, a2, ite_le _ _ _ _ (by omega) (by omega), if_pos (by omega), gI_mul, gp_na 7 _ h44 (by omega), hany, if_neg (show ¬ false = true from by decide)]
      refine t_array118 q R C hR hC hL hany (R * C) 0 gk_F (gk_mkA h 7 (R * C)) (by omega) (by unfold gk_F; omega) ⟨Nat.le_succ _, Nat.le_refl _, ?_, fun x hx => ?_⟩ rfl ?_ ?_ (fun m hm => absurd hm (Nat.not_lt_zero m))
      · show h.2.1 + R * C ≤ h.2.1 + 16
        omega
      · exact gp_new_ne _ _ _ _ (by omega)
      · show ((gk_new h (R * C) _).2.2 h.1).1 = 7
        rw [gp_new_at]
      · show ((gk_new h (R * C) _).2.2 h.1).2.1 = R * C
        rw [gp_new_at]
    | succ m ih =>
      intro k fu hk hf i1 i2
      obtain ⟨fu, rfl⟩ : ∃ f, fu = f + 1 := ⟨fu - 1, by omega⟩
      obtain ⟨j, j1, j2⟩ := q.1.2.2 k (by omega)
      obtain ⟨cs, fv⟩ := j2.fld
      have hk5 := gp_kind j2.1
      rw [f_A_array_b68]
      dsimp only
      rw [gg_16_1, a2, ite_le _ _ _ _ (by omega) (by omega), if_neg (by omega), gr_16_0, ga_17 (by omega), j1, fl_0 fv, gI_lit 5, ite_eq _ _ _ _ (by omega) (by decide), gk_let_eq, show gI k + (1 : Int32) = gI (k + 1) from gI_add k 1]
      rw [anyA] at i1 i2
      by_cases z : (L.getD k gV_d).1 = 5
      · rw [if_pos z, i2 (by rw [decide_eq_true z, Bool.true_or]), if_pos rfl]
        exact (cM.thr q eAR).le (by decide) (by decide)
      · rw [if_neg z]
        rw [decide_eq_false z, Bool.false_or] at i1 i2
        exact ih (k + 1) fu (by omega) (by omega) i1 i2
  exact loop (R * C) (L.length - R * C) gk_F (by omega) (by unfold gk_F; omega) id id
theorem t_array (q : cs_st b cap h S L u) (r c : Int32) : cM cap h S (f_A_array (some 16) r c (gv_ov h S)) (sp_array L r c).1 (sp_array L r c).2 u 4 40 := by
  have hL := q.1.1
  have a2 := q.1.2.1
  have err := (cM.thr (α := Unit) q eAR).le (c' := 4) (s' := 40) (by decide) (by decide)
  unfold f_A_array f_A_array_b10 f_A_array_b46 sp_array
  by_cases z1 : r < 1
  · rw [if_pos z1, if_pos (Or.inl z1)]
    exact err
  · rw [if_neg z1]
    by_cases z2 : c < 1
    · have n2 : ¬ (1 : Int32) ≤ c := fun w => by
        rw [show (1 : Int32) = gI 1 from rfl, lt_iff (by decide)] at z2
        rw [Int32.le_iff_toInt_le, show (1 : Int32).toInt = 1 from rfl] at w
        omega
      rw [if_neg n2, if_pos (Or.inr z2)]
      exact err
    · have p2 : (1 : Int32) ≤ c := by
        rw [show (1 : Int32) = gI 1 from rfl, lt_iff (by decide)] at z2
        rw [Int32.le_iff_toInt_le, show (1 : Int32).toInt = 1 from rfl]
        omega
      rw [if_pos p2, if_neg (show ¬ (r < 1 ∨ c < 1) from fun w => w.elim z1 z2), gg_16_1, a2]
      rw [show (1 : Int32) = gI 1 from rfl, lt_iff (by decide)] at z1 z2
      have r0 : ¬ r < 0 := fun w => by
        rw [show (0 : Int32) = gI 0 from rfl, lt_iff (by decide)] at w
        omega
      have c0 : ¬ c < 0 := fun w => by
        rw [show (0 : Int32) = gI 0 from rfl, lt_iff (by decide)] at w
        omega
      obtain ⟨er, er2⟩ := gI_in r0
      obtain ⟨ec, ec2⟩ := gI_in c0
      revert er ec
      generalize r.toNatClampNeg = R at er2 ⊢
      generalize c.toNatClampNeg = C at ec2 ⊢
      intro er ec
      subst er
      subst ec
      rw [gI_toInt R er2] at z1
      rw [gI_toInt C ec2] at z2
      by_cases y1 : gI L.length < gI R
      · rw [if_pos y1, if_pos (Or.inl y1)]
        exact err
      · rw [if_neg y1, gg_16_1, a2]
        by_cases y2 : gI L.length < gI C
        · rw [if_pos y2, if_pos (Or.inr (Or.inl y2))]
          exact err
        · rw [if_neg y2, gg_16_1, a2, gg_16_1, a2]
          have k1 := y1
          have k2 := y2
          rw [gI_lt _ _ (by omega) er2] at k1
          rw [gI_lt _ _ (by omega) ec2] at k2
          have hRC : R * C ≤ 16 * 16 := Nat.mul_le_mul (by omega) (by omega)
          rw [gI_mul, ite_le _ _ _ _ (by omega) (by omega)]
          by_cases y3 : L.length < R * C
          · rw [if_neg (show ¬ R * C ≤ L.length by omega), if_pos (Or.inr (Or.inr y3))]
            exact err
          · rw [if_pos (show R * C ≤ L.length by omega), if_neg (show ¬ (gI L.length < gI R ∨ gI L.length < gI C ∨ L.length < R * C) from fun w => w.elim y1 (fun w => w.elim y2 y3)), gI_sub _ _ (by omega), gk_let_eq]
            exact t_array68 q R C (by omega) (by omega) (by omega)
end ST5
