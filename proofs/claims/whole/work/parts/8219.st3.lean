/-! THE PURE PART: the class's stack, call -/
def sp_fn (F : Nat) (vs : Nat → gp_V) (n : Nat) : gp_V := if F ≤ 18 then gV_1 (sp_su F vs n) else if F ≤ 34 then gV_1 (sp_ar F vs n) else if F ≤ 55 then sp_ch F vs n else if F ≤ 73 then gV_1 (sp_wo F vs n) else if F ≤ 80 then sp_lo F vs n else gV_1 (sp_da F vs n)
def sp_call (L : List gp_V) (f k : Int32) : Sum Unit String × List gp_V :=
  if f < 0 ∨ gI 92 ≤ f then (.inr eAR, L)
  else if k < gI (fwL.getD f.toNatClampNeg 0) ∨ gI (moL.getD f.toNatClampNeg 0) < k ∨ gI L.length < k then (.inr eAR, L)
  else if k = 0 ∧ ¬ L.length < 16 then (.inr eST, L)
  else (.inl (), L.take (L.length - k.toNatClampNeg) ++ [sp_fn f.toNatClampNeg (upL L k.toNatClampNeg) k.toNatClampNeg])
theorem ay_b : ∀ F : Fin 92, fwL.getD F.val 0 ≤ moL.getD F.val 0 ∧ moL.getD F.val 0 ≤ 8 ∧ (F.val ≠ 43 → F.val ≠ 44 → F.val ≠ 45 → 1 ≤ fwL.getD F.val 0) := by decide
theorem ay_2 : ∀ F : Fin 92, (F.val = 10 ∨ F.val = 11 ∨ F.val = 12 ∨ F.val = 16 ∨ F.val = 17 ∨ F.val = 18 ∨ F.val = 22 ∨ F.val = 23 ∨ F.val = 24 ∨ F.val = 28 ∨ F.val = 31 ∨ F.val = 32 ∨ F.val = 35 ∨ F.val = 36 ∨ F.val = 37 ∨ F.val = 65 ∨ F.val = 68 ∨ F.val = 69 ∨ F.val = 70 ∨ F.val = 76 ∨ F.val = 77 ∨ F.val = 78 ∨ F.val = 79 ∨ F.val = 86 ∨ F.val = 87) → 2 ≤ fwL.getD F.val 0 := by decide
theorem ay_3 : ∀ F : Fin 92, (F.val = 59 ∨ F.val = 66 ∨ F.val = 78 ∨ F.val = 79 ∨ F.val = 81 ∨ F.val = 88) → 3 ≤ fwL.getD F.val 0 := by decide
theorem ay_4 : ∀ F : Fin 92, F.val = 67 → 4 ≤ fwL.getD F.val 0 := by decide
section ST3
variable {b cap n : Nat} {h : gk_H} {S : gv_S} {L : List gp_V} {u : List Nat} {i j : Nat} {V : gp_V}
theorem gp_st.s2 (hs : gp_st h) {β : Type} (K : Option Nat → Option β) : (gk_asR (gk_gs (gv_ov h S) 2)).bind K = K (some 1) := by
  rw [gv_gs, hs.2.2.2.1]
  rfl
theorem gp_st.s3 (hs : gp_st h) {β : Type} (K : Option Nat → Option β) : (gk_asR (gk_gs (gv_ov h S) 3)).bind K = K (some 2) := by
  rw [gv_gs, hs.2.2.2.2.1]
  rfl
theorem t_call99 (q : cs_st b cap h S L u) (F N : Nat) (hF : F < 92) (h1 : fwL.getD F 0 ≤ N) (h2 : N ≤ moL.getD F 0) (h3 : N ≤ L.length) (h4 : L.length - N < 16) : cM cap h S (f_A_call_b99 (some 16) (gI F) (gI N) (gv_ov h S)) (.inl ()) (L.take (L.length - N) ++ [sp_fn F (upL L N) N]) u 302 8013 := by
  have hL := q.1.1
  have a2 := q.1.2.1
  obtain ⟨b1, b2, b3⟩ := ay_b ⟨F, hF⟩
  have c2 := ay_2 ⟨F, hF⟩
  have c3 := ay_3 ⟨F, hF⟩
  have c4 := ay_4 ⟨F, hF⟩
  dsimp only at b1 b2 b3 c2 c3 c4
  obtain ⟨S1, s1, s2, s3⟩ := t_take q N (by omega) (by omega)
  have hc := q.2.2.1
  unfold f_A_call_b99 f_A_call_b216
  rw [gr_16_3, gr_16_0, gg_16_1, a2, gI_sub _ _ h3, gc_20, s1, gk_ca_some, gI_lit 18, gI_lit 34, gI_lit 55, gI_lit 73, gI_lit 80, ite_lt _ _ _ _ (by decide) (by omega), ite_lt _ _ _ _ (by decide) (by omega), ite_lt _ _ _ _ (by decide) (by omega), ite_lt _ _ _ _ (by decide) (by omega), ite_lt _ _ _ _ (by decide) (by omega), gr_16_3, gr_16_3, gr_16_3, gr_16_3, gr_16_3, gr_16_3]
  unfold sp_fn
  have go : ∀ {x : Option (Option Nat × gk_H)} {V : gp_V} {c s : Nat}, cR b h S1 x V c s → c ≤ 300 → s ≤ 8000 → cM cap h S (gk_ca x fun x6 h2 => ((gk_get h2 (some 16) 5 3).bind gk_asR).bind fun x7 => gk_cv h2 x7 4 (f_Ar_faultOr x7 x6 h2) fun x8 h3 => gk_cx h3 (some 16) 5 (f_A_replaceUpper (some 16) (gI N) x8 h3) (fun _ h4 => some (.inl (), h4)) Sum.inr) (.inl ()) (L.take (L.length - N) ++ [V]) u 302 8013 := fun hx k1 k2 => (t_ans q N h3 h4 s3 hx).le (by omega) (by omega)
  by_cases z1 : F ≤ 18
  · rw [if_neg (show ¬ 18 < F by omega), if_pos z1]
    exact go (g_answer s2 hc F z1 (by have := b3 (by omega) (by omega) (by omega); omega) (fun w => by have := c2 (by omega); omega)) (by decide) (by decide)
  · rw [if_pos (show 18 < F by omega), if_neg z1]
    by_cases z2 : F ≤ 34
    · rw [if_neg (show ¬ 34 < F by omega), if_pos z2]
      exact go (m_arith s2 hc (by omega) z2 (by have := b3 (by omega) (by omega) (by omega); omega) (fun w => by have := c2 (by omega); omega)) (by decide) (by decide)
    · rw [if_pos (show 34 < F by omega), if_neg z2]
      by_cases z3 : F ≤ 55
      · rw [if_neg (show ¬ 55 < F by omega), if_pos z3]
        exact go (h_answer s2 hc (by omega) z3 (fun w1 w2 w3 => by have := b3 w1 w2 w3; omega) (fun w => by have := c2 (by omega); omega)) (by decide) (by decide)
      · rw [if_pos (show 55 < F by omega), if_neg z3]
        by_cases z4 : F ≤ 73
        · rw [if_neg (show ¬ 73 < F by omega), if_pos z4]
          exact go (w_answer s2 hc (by omega) z4 (by have := b3 (by omega) (by omega) (by omega); omega) (fun w => by have := c2 (by omega); omega) (fun w => by have := c3 (by omega); omega) (fun w => by have := c4 w; omega)) (by decide) (by decide)
        · rw [if_pos (show 73 < F by omega), if_neg z4]
          by_cases z5 : F ≤ 80
          · rw [if_neg (show ¬ 80 < F by omega), if_pos z5]
            exact go (k_answer s2 hc (by omega) z5 (by have := b3 (by omega) (by omega) (by omega); omega) (fun w => by have := c2 (by omega); omega) (fun w => by have := c3 (by omega); omega)) (by decide) (by decide)
          · rw [if_pos (show 80 < F by omega), if_neg z5]
            exact go (d_answer s2 hc q.2.2.2.1 (by omega) (by omega) (by have := b3 (by omega) (by omega) (by omega); omega) (fun w => by have := c2 (by omega); omega) (fun w => by have := c3 (by omega); omega)) (by decide) (by decide)
theorem lt_iff {k : Int32} {m : Nat} (hm : m < 2147483648) : (k < gI m) ↔ k.toInt < m := by
  rw [Int32.lt_iff_toInt_lt, gI_toInt m hm]
theorem le_iff {k : Int32} {m : Nat} (hm : m < 2147483648) : (k ≤ gI m) ↔ k.toInt ≤ m := by
  rw [Int32.le_iff_toInt_le, gI_toInt m hm]
theorem gt_iff {k : Int32} {m : Nat} (hm : m < 2147483648) : (gI m < k) ↔ (m : Int) < k.toInt := by
  rw [Int32.lt_iff_toInt_lt, gI_toInt m hm]
theorem t_call (q : cs_st b cap h S L u) (f k : Int32) : cM cap h S (f_A_call (some 16) f k (gv_ov h S)) (sp_call L f k).1 (sp_call L f k).2 u 302 8013 := by
  have hL := q.1.1
  have a2 := q.1.2.1
  have hs := q.2.2.1.1
  obtain ⟨y1, y2, y3, y4, y5, y6⟩ := q.2.2.2.2.1
  have err := (cM.thr (α := Unit) q eAR).le (c' := 302) (s' := 8013) (by decide) (by decide)
  have f1 : gv_fx 1 = false := rfl
  have f2 : gv_fx 2 = false := rfl
  unfold f_A_call f_A_call_b20 f_A_call_b48 sp_call
  by_cases z1 : f < 0
  · rw [if_pos z1, if_pos (Or.inl z1)]
    exact err
  · obtain ⟨e1, e2⟩ := gI_in z1
    rw [if_neg z1, hs.s2, gp_len f1 (by rw [y1]; decide), y2]
    by_cases z2 : gI 92 ≤ f
    · rw [if_pos z2, if_pos (Or.inr z2)]
      exact err
    · have hF := in_lt z1 (by decide) z2
      obtain ⟨b1, b2, b3⟩ := ay_b ⟨_, hF⟩
      dsimp only at b1 b2 b3
      rw [if_neg z2, hs.s3, gp_len f2 (by rw [y4]; decide), y5, if_pos ((lt_in z1 (by decide)).mpr z2), if_neg (show ¬ (f < 0 ∨ gI 92 ≤ f) from fun w => w.elim z1 z2), hs.s2]
      revert e1
      generalize f.toNatClampNeg = F at hF b1 b2 b3 ⊢
      intro e1
      subst e1
      rw [gp_aldI f1 y1 (by rw [y2]; exact hF) (by rw [y2]; decide) (y3 F hF)]
      by_cases z3 : k < gI (fwL.getD F 0)
      · rw [if_pos z3, if_pos (Or.inl z3)]
        exact err
      · rw [if_neg z3, hs.s3, gp_aldI f2 y4 (by rw [y5]; exact hF) (by rw [y5]; decide) (y6 F hF)]
        rw [lt_iff (by omega)] at z3
        by_cases z4 : gI (moL.getD F 0) < k
        · have n4 : ¬ k ≤ gI (moL.getD F 0) := fun w => by
            rw [le_iff (by omega)] at w
            rw [gt_iff (by omega)] at z4
            omega
          rw [if_neg n4, if_pos (Or.inr (Or.inl z4))]
          exact err
        · have p4 : k ≤ gI (moL.getD F 0) := by
            rw [gt_iff (by omega)] at z4
            rw [le_iff (by omega)]
            omega
          rw [if_pos p4, gg_16_1, a2]
          by_cases z5 : gI L.length < k
          · have n5 : ¬ k ≤ gI L.length := fun w => by
              rw [le_iff (by omega)] at w
              rw [gt_iff (by omega)] at z5
              omega
            rw [if_neg n5, if_pos (Or.inr (Or.inr z5))]
            exact err
          · have p5 : k ≤ gI L.length := by
              rw [gt_iff (by omega)] at z5
              rw [le_iff (by omega)]
              omega
            have n3 : ¬ k < gI (fwL.getD F 0) := by
              rw [lt_iff (by omega)]
              omega
            rw [if_pos p5, if_neg (show ¬ (k < gI (fwL.getD F 0) ∨ gI (moL.getD F 0) < k ∨ gI L.length < k) from fun w => w.elim n3 (fun w => w.elim z4 z5))]
            have z0 : ¬ k < 0 := fun w => by
              rw [show (0 : Int32) = gI 0 from rfl, lt_iff (by decide)] at w
              omega
            obtain ⟨g1, g2⟩ := gI_in z0
            revert g1
            generalize k.toNatClampNeg = N at g2 ⊢
            intro g1
            subst g1
            rw [gI_toInt N g2] at z3
            rw [le_iff (by omega), gI_toInt N g2] at p4 p5
            have zn : ∀ {β : Type} (x y : β), (if gI N = (0 : Int32) then x else y) = if N = 0 then x else y := fun x y => ite_eq x y N 0 g2 (by decide)
            rw [zn, gg_16_1, a2, gI_lit 16, ite_lt _ _ _ _ (by omega) (by decide)]
            by_cases z6 : N = 0
            · rw [if_pos z6]
              by_cases z7 : L.length < 16
              · rw [if_pos z7, if_neg (fun w => w.2 z7)]
                exact t_call99 q F N hF (by omega) (by omega) (by omega) (by omega)
              · rw [if_neg z7, if_pos (show gI N = 0 ∧ ¬ L.length < 16 from ⟨by rw [z6]; rfl, z7⟩)]
                exact (cM.thr (α := Unit) q eST).le (by decide) (by decide)
            · have nz : ¬ gI N = (0 : Int32) := fun w => z6 (by rw [show (0 : Int32) = gI 0 from rfl, gI_eq _ _ g2 (by decide)] at w; exact w)
              rw [if_neg z6, if_neg (fun w => nz w.1)]
              exact t_call99 q F N hF (by omega) (by omega) (by omega) (by omega)
end ST3
