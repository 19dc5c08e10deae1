/-! THE PURE PART: the reference's stack methods, array -/
section MS5
variable {h : gk_H} {S : gv_S} {L : List gp_V} {u : List Nat} {V : gp_V}
def mAr (f a b : Nat) : Prop := (35 ≤ a ∧ a ≤ 37 ∧ 16 * f ≤ b ∧ b < 16 * f + 16) ∨ (a = 38 ∧ 4096 * f ≤ b ∧ b < 4096 * f + 4096)
theorem mo_arr121 (a : mS S L) (b : mU S u) (R C : Nat) (hR : 1 ≤ R) (hC : 1 ≤ C) (hL : R * C ≤ L.length) (hany : anyA L (R * C) (L.length - R * C) = false) : ∃ S', f_M_array_b121 gk_F (some 30) (gI R) (gI C) (gI (L.length - R * C)) (1 : Int32) (gv_ov h S) = some ((), gv_ov h S') ∧ S'.1 30 0 = S.1 30 0 ∧ mS S' (L.take (L.length - R * C) ++ [sp_arrV L R C]) ∧ mU S' u ∧ mFr S S' := by
  have h16 := a.1
  have hpos : 1 ≤ R * C := Nat.mul_pos hR hC
  have hcell : ∀ k, k < R * C → gp_okC ((sp_arrV L R C).2.2.2 k) ∧ mc S (16 * (L.length - R * C + k)) ((sp_arrV L R C).2.2.2 k) := fun k hk => by
    have hm := a.2.2 (L.length - R * C + k) (by omega)
    have h1 : 0 < (L.getD (L.length - R * C + k) gV_d).2.1 * (L.getD (L.length - R * C + k) gV_d).2.2.1 := Nat.mul_pos (by have := hm.1.1; omega) (by have := hm.1.2.1; omega)
    have := hm.2.2.2.2 0 h1
    rw [Nat.add_zero] at this
    exact ⟨hm.1.2.2.2.1 0 h1, this⟩
  have loop : ∀ (r k fu : Nat) (T : gv_S), k + r = R * C → 1 ≤ k → r < fu → mX (mAr (L.length - R * C)) S T → (∀ j, j < k → mc T (16 * (L.length - R * C) + j) ((sp_arrV L R C).2.2.2 j)) → (∀ j, k ≤ j → j < R * C → mc T (16 * (L.length - R * C + j)) ((sp_arrV L R C).2.2.2 j)) → ∃ T', f_M_array_b121 fu (some 30) (gI R) (gI C) (gI (L.length - R * C)) (gI k) (gv_ov h T) = some ((), gv_ov h (gv_uI (gv_uI (gv_uI (gv_uI T' 32 (L.length - R * C) (gI 5)) 33 (L.length - R * C) (gI R)) 34 (L.length - R * C) (gI C)) 30 3 (gI (L.length - R * C + 1)))) ∧ mX (mAr (L.length - R * C)) S T' ∧ ∀ j, j < R * C → mc T' (16 * (L.length - R * C) + j) ((sp_arrV L R C).2.2.2 j) := by
    intro r
    induction r with
    | zero =>
      intro k fu T hk hk1 hf hT h1 h2
      obtain ⟨fu, rfl⟩ : ∃ f, fu = f + 1 := ⟨fu - 1, by omega⟩
      rw [f_M_array_b121]
      dsimp only
      rw [gI_mul, ite_le _ _ _ _ (by omega) (by omega), if_pos (by omega), gr_30_4, gI_lit 5, gt_32 (by omega), gr_30_5, gt_33 (by omega), gr_30_6, gt_34 (by omega), show gI (L.length - R * C) + (1 : Int32) = gI (L.length - R * C + 1) from gI_add _ 1, gs_30_3]
      exact ⟨T, rfl, hT, fun j hj => h1 j (by omega)⟩
    | succ r ih =>
      intro k fu T hk hk1 hf hT h1 h2
      obtain ⟨fu, rfl⟩ : ∃ f, fu = f + 1 := ⟨fu - 1, by omega⟩
      obtain ⟨ok, -⟩ := hcell k (by omega)
      obtain ⟨T', e1, e2, e3⟩ := m_copyCell (h := h) ok (h2 k (Nat.le_refl _) (by omega)) (show 16 * (L.length - R * C + k) < 272 by omega) (show 16 * (L.length - R * C) + k < 272 by omega) (by omega)
      obtain ⟨T2, q1, q2, q3⟩ := ih (k + 1) fu T' (by omega) (by omega) (by omega) (hT.trans (e2.le fun x y z => by unfold mCl at z; unfold mAr; omega)) (fun j hj => by
        by_cases z : j = k
        · rw [z]
          exact e3
        · exact (h1 j (by omega)).X e2 (hcell j (by omega)).1.2.2.2.2.2.2.2.2.1 fun x y z2 => by
            unfold mCl at z2
            omega) (fun j hj hj2 => (h2 j (by omega) hj2).X e2 (hcell j hj2).1.2.2.2.2.2.2.2.2.1 fun x y z2 => by
          unfold mCl at z2
          omega)
      rw [f_M_array_b121]
      dsimp only
      rw [gI_mul, ite_le _ _ _ _ (by omega) (by omega), if_neg (by omega), gc_30, gI_lit 16, gI_add, gI_mul, gI_mul, gI_add, e1, gk_ca_some, gk_let_eq, show gI k + (1 : Int32) = gI (k + 1) from gI_add k 1]
      exact ⟨T2, q1, q2, q3⟩
  obtain ⟨T, q1, q2, q3⟩ := loop (R * C - 1) 1 gk_F S (by omega) (Nat.le_refl _) (by unfold gk_F; omega) (mX.refl _ _) (fun j hj => by
    have := (hcell 0 (by omega)).2
    rw [show j = 0 by omega]
    exact this) (fun j _ hj => (hcell j hj).2)
  have okV : gp_okV (sp_arrV L R C) := ⟨hR, hC, by show R * C ≤ 16; omega, fun m hm => (hcell m hm).1, Or.inl rfl⟩
  have x2 : mX (fun x y => 32 ≤ x ∧ x ≤ 34 ∧ y = L.length - R * C) T (gv_uI (gv_uI (gv_uI T 32 (L.length - R * C) (gI 5)) 33 (L.length - R * C) (gI R)) 34 (L.length - R * C) (gI C)) := ((mX.I _ ⟨by decide, by decide, rfl⟩).trans (mX.I _ ⟨by decide, by decide, rfl⟩)).trans (mX.I _ ⟨by decide, by decide, rfl⟩)
  have x3 : mX (fun x y => x = 30 ∧ y = 3) (gv_uI (gv_uI (gv_uI T 32 (L.length - R * C) (gI 5)) 33 (L.length - R * C) (gI R)) 34 (L.length - R * C) (gI C)) (gv_uI (gv_uI (gv_uI (gv_uI T 32 (L.length - R * C) (gI 5)) 33 (L.length - R * C) (gI R)) 34 (L.length - R * C) (gI C)) 30 3 (gI (L.length - R * C + 1))) := mX.I _ ⟨rfl, rfl⟩
  have hv : mv (gv_uI (gv_uI (gv_uI T 32 (L.length - R * C) (gI 5)) 33 (L.length - R * C) (gI R)) 34 (L.length - R * C) (gI C)) (L.length - R * C) (sp_arrV L R C) := by
    refine ⟨okV, ?_, ?_, ?_, fun j hj => (q3 j hj).X x2 (okV.2.2.2.1 j hj).2.2.2.2.2.2.2.2.1 fun x y z => by omega⟩
    · rw [gu_I1 _ _ _ _ _ _ (by omega), gu_I1 _ _ _ _ _ _ (by omega)]
      exact gu_I2 _ _ _ _
    · rw [gu_I1 _ _ _ _ _ _ (by omega)]
      exact gu_I2 _ _ _ _
    · exact gu_I2 _ _ _ _
  have qAll : mX (mVl (L.length - R * C)) S (gv_uI (gv_uI (gv_uI T 32 (L.length - R * C) (gI 5)) 33 (L.length - R * C) (gI R)) 34 (L.length - R * C) (gI C)) := (q2.le fun x y z => by unfold mAr at z; unfold mVl; omega).trans (x2.le fun x y z => Or.inl z)
  have hp := a.push (n := L.length - R * C) (by omega) (by omega) qAll hv
  refine ⟨_, q1, ?_, hp, ?_, ?_⟩
  · rw [gu_I1 _ _ _ _ _ _ (by omega), qAll.i (by unfold mVl; omega)]
  · exact (b.X qAll fun x y z => by unfold mVl at z; omega).X x3 fun x y z => by omega
  · exact (qAll.fr fun x y z => by unfold mVl at z; omega).trans (x3.fr fun x y z => by omega)
theorem mo_array (a : mS S L) (b : mU S u) (r c : Int32) : ∃ S', f_M_array (some 30) r c (gv_ov h S) = some ((), gv_ov h S') ∧ mO S S' (cdN eAR (sp_array L r c).1) (sp_array L r c).2 u := by
  have h16 := a.1
  -- not good from the start: the loop sees nothing
  have bad : ∃ S', f_M_array_b28 (some 30) r c (gv_ov h S) = some ((), gv_ov h S') ∧ mO S S' 1 L u := by
    unfold f_M_array_b28 f_M_array_b29 f_M_array_b49
    rw [if_pos rfl, gg_30_3, a.2.1]
    have hF : gk_F = (gk_F - 1) + 1 := rfl
    rw [hF, f_M_array_b51]
    unfold f_M_array_b97
    dsimp only
    rw [gg_30_3, a.2.1, if_pos (by rw [gI_le _ _ (by omega) (by omega)]; omega), if_pos rfl, gs01l, gg_30_0, gu_I2, if_neg (show ¬ gI 1 ≤ 0 from by decide)]
    exact ⟨_, rfl, mO.code a b 1⟩
  unfold f_M_array sp_array
  by_cases z1 : r < 1
  · rw [if_pos z1, if_pos (Or.inl z1)]
    exact bad
  · rw [if_neg z1]
    by_cases z2 : c < 1
    · rw [if_pos z2, if_pos (Or.inr z2)]
      exact bad
    · rw [if_neg z2, if_neg (show ¬ (r < 1 ∨ c < 1) from fun w => w.elim z1 z2), gg_30_3, a.2.1]
      rw [show (1 : Int32) = gI 1 from rfl, lt_iff (by decide)] at z1 z2
      have r0 : ¬ r < 0 := fun w => by
        rw [show (0 : Int32) = gI 0 from rfl, lt_iff (by decide)] at w
        omega
      have c0 : ¬ c < 0 := fun w => by
        rw [show (0 : Int32) = gI 0 from rfl, lt_iff (by decide)] at w
        omega
      obtain ⟨er, er2⟩ := gI_in r0
      obtain ⟨ec, ec2⟩ := gI_in c0
      revert er ec bad
      generalize r.toNatClampNeg = R at er2 ⊢
      generalize c.toNatClampNeg = C at ec2 ⊢
      intro bad er ec
      subst er
      subst ec
      rw [gI_toInt R er2] at z1
      rw [gI_toInt C ec2] at z2
      have hRC : R * C ≤ 2147483647 * 2147483647 := Nat.mul_le_mul (by omega) (by omega)
      have hR1 : R ≤ R * C := Nat.le_mul_of_pos_right R (by omega)
      have hC1 : C ≤ R * C := Nat.le_mul_of_pos_left C (by omega)
      have ecast : ((R : Int) * (C : Int)) = ((R * C : Nat) : Int) := (Int.natCast_mul R C).symm
      rw [gI_toJ _ er2, gI_toJ _ ec2, gI_toJ _ (by omega), gJ_mul, ecast, jte_gt _ _ _ _ (by omega) (by omega) (by omega) (by omega)]
      by_cases y : L.length < R * C
      · rw [if_pos (show ((L.length : Nat) : Int) < ((R * C : Nat) : Int) by omega), if_pos (show gI L.length < gI R ∨ gI L.length < gI C ∨ L.length < R * C from Or.inr (Or.inr y))]
        exact bad
      · have y1 : ¬ gI L.length < gI R := by
          rw [gI_lt _ _ (by omega) er2]
          omega
        have y2 : ¬ gI L.length < gI C := by
          rw [gI_lt _ _ (by omega) ec2]
          omega
        rw [if_neg (show ¬ ((L.length : Nat) : Int) < ((R * C : Nat) : Int) by omega), if_neg (show ¬ (gI L.length < gI R ∨ gI L.length < gI C ∨ L.length < R * C) from fun w => w.elim y1 (fun w => w.elim y2 y))]
        unfold f_M_array_b29 f_M_array_b49
        rw [if_neg (show ¬ (1 : Int32) = 0 from by decide), gg_30_3, a.2.1, gI_mul, gI_sub _ _ (by omega)]
        have hpos : 1 ≤ R * C := Nat.mul_pos (by omega) (by omega)
        have loop : ∀ (m k fu : Nat) (g : Bool), k + m = L.length → m < fu → (!g || anyA L m k) = anyA L (R * C) (L.length - R * C) → ∃ S', f_M_array_b51 fu (some 30) (gI R) (gI C) (gB g) (gI k) (gv_ov h S) = some ((), gv_ov h S') ∧ mO S S' (cdN eAR (if anyA L (R * C) (L.length - R * C) = true then ((.inr eAR : Sum Unit String), L) else (.inl (), L.take (L.length - R * C) ++ [sp_arrV L R C])).1) (if anyA L (R * C) (L.length - R * C) = true then ((.inr eAR : Sum Unit String), L) else (.inl (), L.take (L.length - R * C) ++ [sp_arrV L R C])).2 u := by
          intro m
          induction m with
          | zero =>
            intro k fu g hk hf i1
            obtain ⟨fu, rfl⟩ : ∃ f, fu = f + 1 := ⟨fu - 1, by omega⟩
            rw [show anyA L 0 k = false from rfl, Bool.or_false] at i1
            rw [f_M_array_b51]
            unfold f_M_array_b97
            dsimp only
            rw [gg_30_3, a.2.1, ite_le _ _ _ _ (by omega) (by omega), if_pos (by omega), ite_B]
            cases g
            · rw [← i1, if_neg (by decide), if_pos (by decide), gs01l, gg_30_0, gu_I2, if_neg (show ¬ gI 1 ≤ 0 from by decide)]
              exact ⟨_, rfl, mO.code a b 1⟩
            · have hany : anyA L (R * C) (L.length - R * C) = false := i1.symm
              obtain ⟨S', p1, p2, p3, p4, p5⟩ := mo_arr121 (h := h) (a.code 0) (b.code 0) R C (by omega) (by omega) (by omega) hany
              rw [hany, if_pos rfl, if_neg (by decide), gs00l, gg_30_0, gu_I2, if_pos (show gI 0 ≤ 0 from by decide), gg_30_3, (a.code 0).2.1, gI_mul, gI_sub _ _ (by omega), gk_let_eq, p1]
              exact ⟨S', rfl, by rw [p2]; exact gu_I2 _ _ _ _, p3, p4, (mO.code a b 0).2.2.2.trans p5⟩
          | succ m ih =>
            intro k fu g hk hf i1
            obtain ⟨fu, rfl⟩ : ∃ f, fu = f + 1 := ⟨fu - 1, by omega⟩
            have hm := a.2.2 k (by omega)
            have hk5 := gp_kind hm.1
            rw [anyA] at i1
            rw [f_M_array_b51]
            unfold f_M_array_b79 f_M_array_b80
            dsimp only
            rw [gg_30_3, a.2.1, ite_le _ _ _ _ (by omega) (by omega), if_neg (by omega), ite_B, gr_30_4, ga_32 (by omega), hm.2.1, gI_lit 5, ite_le _ _ _ _ (by decide) (by omega), gk_let_eq, gk_let_eq, show gI k + (1 : Int32) = gI (k + 1) from gI_add k 1]
            cases g
            · rw [if_neg (by decide)]
              exact ih (k + 1) fu false (by omega) (by omega) (by rw [← i1]; rfl)
            · rw [if_pos rfl]
              by_cases z : (L.getD k gV_d).1 = 5
              · rw [if_pos (by omega)]
                exact ih (k + 1) fu false (by omega) (by omega) (by rw [← i1, decide_eq_true z]; rfl)
              · rw [if_neg (by omega)]
                exact ih (k + 1) fu true (by omega) (by omega) (by rw [← i1, decide_eq_false z]; rfl)
        exact loop (R * C) (L.length - R * C) gk_F true (by omega) (by unfold gk_F; omega) (by rw [Bool.not_true, Bool.false_or])
end MS5
