/-! THE PURE PART: the reference's call -/
theorem mk_takes (h : gk_H) : ∀ F, F < 92 → f_M_takes (gI F) h = some (gI (10 * fwL.getD F 0 + moL.getD F 0), h)
  | 0, _ => rfl
  | 1, _ => rfl
  | 2, _ => rfl
  | 3, _ => rfl
  | 4, _ => rfl
  | 5, _ => rfl
  | 6, _ => rfl
  | 7, _ => rfl
  | 8, _ => rfl
  | 9, _ => rfl
  | 10, _ => rfl
  | 11, _ => rfl
  | 12, _ => rfl
  | 13, _ => rfl
  | 14, _ => rfl
  | 15, _ => rfl
  | 16, _ => rfl
  | 17, _ => rfl
  | 18, _ => rfl
  | 19, _ => rfl
  | 20, _ => rfl
  | 21, _ => rfl
  | 22, _ => rfl
  | 23, _ => rfl
  | 24, _ => rfl
  | 25, _ => rfl
  | 26, _ => rfl
  | 27, _ => rfl
  | 28, _ => rfl
  | 29, _ => rfl
  | 30, _ => rfl
  | 31, _ => rfl
  | 32, _ => rfl
  | 33, _ => rfl
  | 34, _ => rfl
  | 35, _ => rfl
  | 36, _ => rfl
  | 37, _ => rfl
  | 38, _ => rfl
  | 39, _ => rfl
  | 40, _ => rfl
  | 41, _ => rfl
  | 42, _ => rfl
  | 43, _ => rfl
  | 44, _ => rfl
  | 45, _ => rfl
  | 46, _ => rfl
  | 47, _ => rfl
  | 48, _ => rfl
  | 49, _ => rfl
  | 50, _ => rfl
  | 51, _ => rfl
  | 52, _ => rfl
  | 53, _ => rfl
  | 54, _ => rfl
  | 55, _ => rfl
  | 56, _ => rfl
  | 57, _ => rfl
  | 58, _ => rfl
  | 59, _ => rfl
  | 60, _ => rfl
  | 61, _ => rfl
  | 62, _ => rfl
  | 63, _ => rfl
  | 64, _ => rfl
  | 65, _ => rfl
  | 66, _ => rfl
  | 67, _ => rfl
  | 68, _ => rfl
  | 69, _ => rfl
  | 70, _ => rfl
  | 71, _ => rfl
  | 72, _ => rfl
  | 73, _ => rfl
  | 74, _ => rfl
  | 75, _ => rfl
  | 76, _ => rfl
  | 77, _ => rfl
  | 78, _ => rfl
  | 79, _ => rfl
  | 80, _ => rfl
  | 81, _ => rfl
  | 82, _ => rfl
  | 83, _ => rfl
  | 84, _ => rfl
  | 85, _ => rfl
  | 86, _ => rfl
  | 87, _ => rfl
  | 88, _ => rfl
  | 89, _ => rfl
  | 90, _ => rfl
  | 91, _ => rfl
  | n + 92, h => absurd h (by omega)
theorem ay_m1 : ∀ F : Fin 92, (F.val = 22 ∨ F.val = 23 ∨ F.val = 24 ∨ F.val = 28 ∨ F.val = 31 ∨ F.val = 32 ∨ F.val = 65 ∨ F.val = 86 ∨ F.val = 87 → fwL.getD F.val 0 = 2 ∧ moL.getD F.val 0 = 2) ∧ (F.val = 19 ∨ F.val = 20 ∨ F.val = 21 ∨ F.val = 29 ∨ F.val = 30 ∨ F.val = 82 ∨ F.val = 83 ∨ F.val = 84 → fwL.getD F.val 0 = 1 ∧ moL.getD F.val 0 = 1) ∧ (F.val = 33 ∨ F.val = 34 ∨ F.val = 57 ∨ F.val = 58 ∨ F.val = 85 → moL.getD F.val 0 = 2) := by decide
theorem ay_m2 : ∀ F : Fin 92, (F.val = 16 ∨ F.val = 17 ∨ F.val = 18 ∨ F.val = 35 ∨ F.val = 68 ∨ F.val = 69 ∨ F.val = 76 ∨ F.val = 77 → fwL.getD F.val 0 = 2 ∧ moL.getD F.val 0 ≤ 3) ∧ (F.val = 10 ∨ F.val = 11 ∨ F.val = 12 ∨ F.val = 36 ∨ F.val = 37 ∨ F.val = 38 ∨ F.val = 70 → fwL.getD F.val 0 = 2) := by decide
theorem ay_m3 : ∀ F : Fin 92, (F.val = 66 ∨ F.val = 78 ∨ F.val = 79 → fwL.getD F.val 0 = 3 ∧ moL.getD F.val 0 = 4) ∧ (F.val = 59 ∨ F.val = 81 ∨ F.val = 88 → fwL.getD F.val 0 = 3 ∧ moL.getD F.val 0 = 3) ∧ (F.val = 67 → fwL.getD F.val 0 = 4 ∧ moL.getD F.val 0 = 4) := by decide
section MCL
variable {h : gk_H} {S : gv_S} {L : List gp_V} {u : List Nat} {V : gp_V} {f : Nat}
theorem mo_fn (a : mS S L) (b : mU S u) (F N : Nat) (hF : F < 92) (h1 : fwL.getD F 0 ≤ N) (h2 : N ≤ moL.getD F 0) (h3 : N ≤ L.length) (h4 : L.length - N < 16) : ∃ S', f_M_call_b84 (some 30) (gI F) (gI N) (some 30) (0 : Int32) (gv_ov h S) = some ((), gv_ov h S') ∧ mO S S' 0 (L.take (L.length - N) ++ [sp_fn F (upL L N) N]) u := by
  have h16 := a.1
  obtain ⟨b1, b2, b3⟩ := ay_b ⟨F, hF⟩
  obtain ⟨m1a, m1b, m1c⟩ := ay_m1 ⟨F, hF⟩
  obtain ⟨m2a, m2b⟩ := ay_m2 ⟨F, hF⟩
  obtain ⟨m3a, m3b, m3c⟩ := ay_m3 ⟨F, hF⟩
  dsimp only at b1 b2 b3 m1a m1b m1c m2a m2b m3a m3b m3c
  have g : mG (mB0 S) (L.length - N) (upL L N) N := ⟨by omega, mv_up a h3⟩
  have hb : (mB0 S).1 30 11 = gI 0 := mB0_b
  have m3 : (mB0 S).1 30 3 = gI L.length := (mB0_s a).2.1
  have s0 : ∀ {β : Type} (K : gk_H → Option β), (gk_set (gv_ov h (gv_uI S 30 0 (gI 0))) (some 30) 7 11 (.int (0 : Int32))).bind K = K (gv_ov h (mB0 S)) := fun K => gs_30_11 _ K
  have endK : ∀ (X : Option (Unit × gk_H)) (W : gp_V), mF h (mB0 S) X W → ∃ S', (gk_ca X fun _ h9 => f_M_call_b234 (some 30) (gI N) h9) = some ((), gv_ov h S') ∧ mO S S' 0 (L.take (L.length - N) ++ [W]) u := fun X W q => by
    obtain ⟨T, e, W', t1, t2, t3, t4⟩ := q
    obtain ⟨S', p1, p2⟩ := mo_end (h := h) a b h3 h4 t2 t3
    rw [t1, gk_ca_some]
    unfold f_M_call_b234
    rw [gc_30, p1, gk_ca_some, ← t4]
    exact ⟨S', rfl, p2⟩
  unfold f_M_call_b84
  rw [gs00l, gg_30_0, gu_I2, if_pos (show gI 0 ≤ 0 from by decide), s0, gg_30_3, m3, gI_sub _ _ h3, gk_let_eq, gI_lit 15, gI_lit 19, gI_lit 35, gI_lit 46, gI_lit 56, gI_lit 74, gI_lit 81, ite_le _ _ _ _ (by decide) (by omega), ite_le _ _ _ _ (by decide) (by omega), ite_le _ _ _ _ (by decide) (by omega), ite_le _ _ _ _ (by decide) (by omega), ite_le _ _ _ _ (by decide) (by omega), ite_le _ _ _ _ (by decide) (by omega), ite_le _ _ _ _ (by decide) (by omega)]
  simp only [gc_30]
  unfold sp_fn
  by_cases z15 : 15 ≤ F
  · rw [if_pos z15]
    by_cases z19 : 19 ≤ F
    · rw [if_pos z19, if_neg (show ¬ F ≤ 18 by omega)]
      by_cases z35 : 35 ≤ F
      · rw [if_pos z35, if_neg (show ¬ F ≤ 34 by omega)]
        by_cases z46 : 46 ≤ F
        · rw [if_pos z46]
          by_cases z56 : 56 ≤ F
          · rw [if_pos z56, if_neg (show ¬ F ≤ 55 by omega)]
            by_cases z74 : 74 ≤ F
            · rw [if_pos z74, if_neg (show ¬ F ≤ 73 by omega)]
              by_cases z81 : 81 ≤ F
              · rw [if_pos z81, if_neg (show ¬ F ≤ 80 by omega)]
                exact endK _ _ (mo_days g hb z81 (by omega) (by omega) (by omega) (by omega) (by omega) (by omega))
              · rw [if_neg z81, if_pos (show F ≤ 80 by omega)]
                exact endK _ _ (mo_lookups g hb z74 (by omega) (by omega) (by omega) (by omega))
            · rw [if_neg z74, if_pos (show F ≤ 73 by omega)]
              exact endK _ _ (mo_texts g hb z56 (by omega) (by omega) (by omega) (by omega) (by omega) (by omega) (by omega) (by omega) (by omega) (by omega))
          · rw [if_neg z56, if_pos (show F ≤ 55 by omega)]
            exact endK _ _ (mo_kindsOf g hb z46 (by omega) (by omega))
        · rw [if_neg z46, if_pos (show F ≤ 55 by omega)]
          exact endK _ _ (mo_choices g hb z35 (by omega) (by omega) (by omega) (by omega) (by omega))
      · rw [if_neg z35, if_pos (show F ≤ 34 by omega)]
        exact endK _ _ (mo_numbers g hb F z19 (by omega) (by omega) (by omega) (by omega) (by omega) (by omega))
    · rw [if_neg z19, if_pos (show F ≤ 18 by omega)]
      exact endK _ _ (mo_conditions g hb z15 (by omega) (by omega) (by omega) (by omega))
  · rw [if_neg z15, if_pos (show F ≤ 18 by omega)]
    exact endK _ _ (mo_figures g hb F (by omega) (by omega) (by omega))
theorem mo_call (a : mS S L) (b : mU S u) (f k : Int32) : ∃ S', f_M_call (some 30) f k (gv_ov h S) = some ((), gv_ov h S') ∧ mO S S' (cdN eAR (sp_call L f k).1) (sp_call L f k).2 u := by
  have h16 := a.1
  have a2 := a.2.1
  have bad1 : ∀ f k : Int32, ∃ S', f_M_call_b54 (some 30) f k (gv_ov h S) = some ((), gv_ov h S') ∧ mO S S' 1 L u := fun f k => by
    unfold f_M_call_b54 f_M_call_b55 f_M_call_b84
    rw [if_pos (show (0 : Int32) = 0 from rfl), gs01l, gg_30_0, gu_I2, if_neg (show ¬ gI 1 ≤ 0 from by decide)]
    exact ⟨_, rfl, mO.code a b 1⟩
  unfold f_M_call f_M_call_b14 sp_call
  by_cases z1 : f < 0
  · rw [if_pos z1, if_pos (Or.inl z1)]
    unfold f_M_call_b15
    rw [if_pos (show (0 : Int32) = 0 from rfl)]
    exact bad1 _ _
  · obtain ⟨e1, e2⟩ := gI_in z1
    rw [if_neg z1, gI_lit 92]
    by_cases z2 : gI 92 ≤ f
    · rw [if_pos z2, if_pos (Or.inr z2)]
      unfold f_M_call_b15
      rw [if_pos (show (0 : Int32) = 0 from rfl)]
      exact bad1 _ _
    · have hF := in_lt z1 (by decide) z2
      obtain ⟨b1, b2, b3⟩ := ay_b ⟨_, hF⟩
      dsimp only at b1 b2 b3
      rw [if_neg z2, if_neg (show ¬ (f < 0 ∨ gI 92 ≤ f) from fun w => w.elim z1 z2)]
      revert e1
      generalize f.toNatClampNeg = F at hF b1 b2 b3 ⊢
      intro e1
      subst e1
      unfold f_M_call_b15
      rw [if_neg (show ¬ (1 : Int32) = 0 from by decide), mk_takes _ F hF, gk_ca_some, gI_lit 10, gI_div _ _ (by omega) (by decide) (by decide), show (10 * fwL.getD F 0 + moL.getD F 0) / 10 = fwL.getD F 0 by omega]
      by_cases z3 : k < gI (fwL.getD F 0)
      · rw [if_pos z3, if_pos (Or.inl z3)]
        exact bad1 _ _
      · rw [if_neg z3, mk_takes _ F hF, gk_ca_some, gI_mod _ _ (by omega) (by decide) (by decide), show (10 * fwL.getD F 0 + moL.getD F 0) % 10 = moL.getD F 0 by omega]
        by_cases z4 : gI (moL.getD F 0) < k
        · rw [if_pos z4, if_pos (Or.inr (Or.inl z4))]
          exact bad1 _ _
        · rw [if_neg z4, gg_30_3, a2]
          by_cases z5 : gI L.length < k
          · rw [if_pos z5, if_pos (Or.inr (Or.inr z5))]
            exact bad1 _ _
          · rw [if_neg z5, if_neg (show ¬ (k < gI (fwL.getD F 0) ∨ gI (moL.getD F 0) < k ∨ gI L.length < k) from fun w => w.elim z3 (fun w => w.elim z4 z5))]
            rw [lt_iff (by omega)] at z3
            rw [gt_iff (by omega)] at z4 z5
            have z0 : ¬ k < 0 := fun w => by
              rw [show (0 : Int32) = gI 0 from rfl, lt_iff (by decide)] at w
              omega
            obtain ⟨g1, g2⟩ := gI_in z0
            revert g1
            generalize k.toNatClampNeg = N at g2 ⊢
            intro g1
            subst g1
            rw [gI_toInt N g2] at z3 z4 z5
            have b83 : L.length - N < 16 → ∃ S', f_M_call_b83 (some 30) (gI F) (gI N) (some 30) (gv_ov h S) = some ((), gv_ov h S') ∧ mO S S' 0 (L.take (L.length - N) ++ [sp_fn F (upL L N) N]) u := fun w => by
              unfold f_M_call_b83
              exact mo_fn a b F N hF (by omega) (by omega) (by omega) w
            unfold f_M_call_b55
            rw [if_neg (show ¬ (1 : Int32) = 0 from by decide), ine0 N g2]
            by_cases z6 : N = 0
            · have hfull : f_M_isFull (some 30) (1 : Int32) (gv_ov h S) = _ := mi_full (h := h) a 1 (by decide)
              rw [if_pos z6, gc_30, hfull, gk_ca_some, ite_B]
              by_cases z7 : L.length < 16
              · rw [decide_eq_false (show ¬ L.length = 16 by omega), if_neg (show ¬ (false = true) by decide), if_neg (fun w => w.2 z7)]
                exact b83 (by omega)
              · rw [decide_eq_true (show L.length = 16 by omega), if_pos (show true = true from rfl), if_pos (show gI N = 0 ∧ ¬ L.length < 16 from ⟨by rw [z6]; rfl, z7⟩)]
                have e2l : ∀ {β : Type} (K : gk_H → Option β), (gk_set (gv_ov h S) (some 30) 7 0 (.int (2 : Int32))).bind K = K (gv_ov h (gv_uI S 30 0 (gI 2))) := fun K => gs_30_0 _ K
                unfold f_M_call_b84
                rw [e2l, gg_30_0, gu_I2, if_neg (show ¬ gI 2 ≤ 0 from by decide)]
                exact ⟨_, rfl, mO.code a b 2⟩
            · have nz : ¬ gI N = (0 : Int32) := fun w => z6 (by rw [show (0 : Int32) = gI 0 from rfl, gI_eq _ _ g2 (by decide)] at w; exact w)
              rw [if_neg z6, if_neg (fun w => nz w.1)]
              exact b83 (by omega)
end MCL
