/-! THE PURE PART: the reference's stack methods, type and array -/
theorem sh_and (x : BitVec 32) (s : Nat) (hs : s ≤ 24) : x.sshiftRight s &&& 255#32 = x >>> s &&& 255#32 := by
  apply BitVec.eq_of_getLsbD_eq
  intro i hi
  rw [BitVec.getLsbD_and, BitVec.getLsbD_and, BitVec.getLsbD_sshiftRight, BitVec.getLsbD_ushiftRight]
  by_cases h8 : i < 8
  · rw [if_pos (by omega)]
    have : decide (32 ≤ i) = false := decide_eq_false (by omega)
    rw [this, Bool.not_false, Bool.true_and]
  · have h255 : ∀ j : Fin 32, 8 ≤ j.val → (255#32).getLsbD j.val = false := by decide
    have := h255 ⟨i, hi⟩ (by show 8 ≤ i; omega)
    rw [this, Bool.and_false, Bool.and_false]
theorem tyM_24 (w : Int32) : (w >>> (24 : Int32)) &&& (255 : Int32) = tyB w (gN 24) := by
  apply Int32.toBitVec_inj.mp
  exact sh_and w.toBitVec 24 (by decide)
theorem tyM_16 (w : Int32) : (w >>> (16 : Int32)) &&& (255 : Int32) = tyB w (gN 16) := by
  apply Int32.toBitVec_inj.mp
  exact sh_and w.toBitVec 16 (by decide)
theorem tyM_8 (w : Int32) : (w >>> (8 : Int32)) &&& (255 : Int32) = tyB w (gN 8) := by
  apply Int32.toBitVec_inj.mp
  exact sh_and w.toBitVec 8 (by decide)
theorem tyM_0 (w : Int32) : (w >>> (0 : Int32)) &&& (255 : Int32) = tyB w (gN 0) := by
  apply Int32.toBitVec_inj.mp
  exact sh_and w.toBitVec 0 (by decide)
theorem tyM_sh : ∀ k : Fin 4, ((24 : Int32) - ((8 : Int32) * gI k.val)) &&& 31 = gN (24 - 8 * k.val) := by decide
theorem tyM (w : Int32) (k : Nat) (hk : k < 4) : (w >>> (((24 : Int32) - ((8 : Int32) * gI k)) &&& 31)) &&& (255 : Int32) = tyB w (gN (8 * (3 - k : Nat))) := by
  rw [tyM_sh ⟨k, hk⟩]
  have : k = 0 ∨ k = 1 ∨ k = 2 ∨ k = 3 := by omega
  rcases this with rfl | rfl | rfl | rfl
  · exact tyM_24 w
  · exact tyM_16 w
  · exact tyM_8 w
  · exact tyM_0 w
section MS4
variable {h : gk_H} {S : gv_S} {L : List gp_V} {u : List Nat} {V : gp_V}
theorem mt_two (w : Int32) : ∀ (r fu : Nat) (S : gv_S) (u : List Nat), r ≤ 4 → r < fu → mS S L → mU S u → tyOk (tyr w r) = true → u.length + (tyr w r).length ≤ 255 → ∃ S', f_M_type_b118 fu (some 30) w (gI (4 - r)) (gv_ov h S) = some (gI (u ++ tyr w r).length, gv_ov h S') ∧ S'.1 30 0 = S.1 30 0 ∧ mS S' L ∧ mU S' (u ++ tyr w r) ∧ mFr S S' := by
  intro r
  induction r with
  | zero =>
    intro fu S u hr hf a b hok hl
    obtain ⟨fu, rfl⟩ : ∃ f, fu = f + 1 := ⟨fu - 1, by omega⟩
    rw [f_M_type_b118]
    dsimp only
    rw [if_pos (by decide), gg_30_1, b.2.2.1, show tyr w 0 = [] from rfl, List.append_nil]
    exact ⟨S, rfl, rfl, a, b, mFr.refl S⟩
  | succ r ih =>
    intro fu S u hr hf a b hok hl
    obtain ⟨fu, rfl⟩ : ∃ f, fu = f + 1 := ⟨fu - 1, by omega⟩
    obtain ⟨e1, e2⟩ := tyB_b w (gN (8 * r))
    have et : (w >>> (((24 : Int32) - ((8 : Int32) * gI (4 - (r + 1)))) &&& 31)) &&& (255 : Int32) = tyB w (gN (8 * (r : Int))) := by
      rw [tyM w _ (by omega), show 3 - (4 - (r + 1)) = r by omega]
    rw [f_M_type_b118]
    unfold f_M_type_b167
    dsimp only
    rw [gI_lit 4, ite_le _ _ _ _ (by decide) (by omega), if_neg (by omega), et, gk_let_eq, e1]
    rw [tyr] at hok hl ⊢
    generalize (tyB w (gN (8 * r))).toNatClampNeg = c at e2 hok hl ⊢
    have z0 : ∀ {β : Type} (x y : β), (if gI c ≤ (0 : Int32) then x else y) = if c = 0 then x else y := fun x y => by
      rw [show (0 : Int32) = gI 0 from rfl, ite_le _ _ _ _ (by omega) (by decide)]
      by_cases q : c = 0
      · rw [if_pos q, if_pos (by omega)]
      · rw [if_neg q, if_neg (by omega)]
    have ek : gI (4 - (r + 1)) + (1 : Int32) = gI (4 - r) := by
      rw [show (1 : Int32) = gI 1 from rfl, gI_add, show 4 - (r + 1) + 1 = 4 - r by omega]
    rw [z0]
    by_cases z : c = 0
    · rw [if_pos z] at hok hl ⊢
      rw [if_pos z, gk_let_eq, ek]
      rw [List.nil_append] at hok hl ⊢
      exact ih fu S u (by omega) (by omega) a b hok hl
    · rw [if_neg z] at hok hl ⊢
      have ok2 := tyOk_okT hok c (by simp)
      rw [List.length_append, List.length_singleton] at hl
      have hok' : tyOk (tyr w r) = true := by
        unfold tyOk at hok ⊢
        rw [List.all_append, Bool.and_eq_true] at hok
        exact hok.2
      have x1 : mX (fun x y => x = 31) S (gv_uI S 31 u.length (gI c)) := mX.I _ rfl
      have x2 : mX (fun x y => x = 30 ∧ y = 1) (gv_uI S 31 u.length (gI c)) (gv_uI (gv_uI S 31 u.length (gI c)) 30 1 (gI (u.length + 1))) := mX.I _ ⟨rfl, rfl⟩
      have a2 : mS (gv_uI (gv_uI S 31 u.length (gI c)) 30 1 (gI (u.length + 1))) L := (a.X x1 fun x y q => ⟨by omega, fun m _ q2 => by unfold mVl at q2; omega⟩).X x2 fun x y q => ⟨by omega, fun m _ q2 => by unfold mVl at q2; omega⟩
      have b2 : mU (gv_uI (gv_uI S 31 u.length (gI c)) 30 1 (gI (u.length + 1))) (u ++ [c]) := by
        refine ⟨by rw [List.length_append, List.length_singleton]; omega, b.2.1.app (okT.one ok2.1 ok2.2), ?_, fun k hk => ?_⟩
        · rw [List.length_append, List.length_singleton]
          exact gu_I2 _ _ _ _
        · rw [List.length_append, List.length_singleton] at hk
          rw [gu_I1 _ _ _ _ _ _ (by omega)]
          by_cases q : k = u.length
          · rw [q, gu_I2, List.getD_eq_getElem?_getD, List.getElem?_append_right (Nat.le_refl _), Nat.sub_self]
            rfl
          · rw [gu_I1 _ _ _ _ _ _ (by omega), List.getD_eq_getElem?_getD, List.getElem?_append_left (by omega), ← List.getD_eq_getElem?_getD]
            exact b.2.2.2 k (by omega)
      have eb : Int8.toInt32 (Int32.toInt8 (gI c)) = gI c := gI_bb (by omega)
      rw [if_neg z, gr_30_2, gg_30_1, b.2.2.1, eb, gt_31 (by omega), gI_bb (by omega), gg_30_1, gu_I1 _ _ _ _ _ _ (by omega), b.2.2.1, show gI u.length + (1 : Int32) = gI (u.length + 1) from gI_add _ 1, gs_30_1, gk_let_eq, ek]
      obtain ⟨S', k1, k2, k3, k4, k5⟩ := ih fu _ (u ++ [c]) (by omega) (by omega) a2 b2 hok' (by rw [List.length_append, List.length_singleton]; omega)
      rw [List.append_assoc] at k1 k4
      refine ⟨S', k1, ?_, k3, k4, ((x1.fr fun x y q => by omega).trans (x2.fr fun x y q => by omega)).trans k5⟩
      rw [k2, gu_I1 _ _ _ _ _ _ (by omega), gu_I1 _ _ _ _ _ _ (by omega)]
theorem mo_type (a : mS S L) (b : mU S u) (w : Int32) : ∃ S', f_M_type (some 30) w (gv_ov h S) = some (anI (sp_type u w).1, gv_ov h S') ∧ mO S S' (cdN eAR (sp_type u w).1) L (sp_type u w).2 := by
  have hu := b.1
  have loop : ∀ (r n fu : Nat) (wr : Bool), r ≤ 4 → n + r ≤ 4 → r < fu → (wr || !tyOk (tyr w r)) = !tyOk (tyr w 4) → n + (tyr w r).length = (tyr w 4).length → ∃ S', f_M_type_b7 fu (some 30) w (gI n) (gB wr) (gI (4 - r)) (gv_ov h S) = some (anI (sp_type u w).1, gv_ov h S') ∧ mO S S' (cdN eAR (sp_type u w).1) L (sp_type u w).2 := by
    intro r
    induction r with
    | zero =>
      intro n fu wr hr hn hf i1 i2
      obtain ⟨fu, rfl⟩ : ∃ f, fu = f + 1 := ⟨fu - 1, by omega⟩
      have et : tyOk (tyr w 0) = true := rfl
      rw [et, Bool.not_true, Bool.or_false] at i1
      have hl : (tyr w 4).length = n := by
        rw [← i2]
        rfl
      rw [f_M_type_b7]
      unfold f_M_type_b103 sp_type
      dsimp only
      rw [if_pos (by decide), ite_B]
      by_cases z : wr = true
      · have n4 : ¬ tyOk (tyr w 4) = true := fun q => by
          rw [z, q] at i1
          cases i1
        rw [if_pos z, if_neg n4, gs01l, gg_30_0, gu_I2, if_neg (show ¬ gI 1 ≤ 0 from by decide)]
        exact ⟨_, rfl, mO.code a b 1⟩
      · have p4 : tyOk (tyr w 4) = true := by
          rw [Bool.eq_false_iff.mpr z] at i1
          cases q : tyOk (tyr w 4)
          · rw [q] at i1
            cases i1
          · rfl
        rw [if_neg z, if_pos p4, gg_30_1, b.2.2.1, gI_add, gI_lit 255, ite_le _ _ _ _ (by omega) (by decide), hl]
        by_cases z2 : u.length + n ≤ 255
        · rw [if_pos z2, if_pos z2, gs00l, gg_30_0, gu_I2, if_pos (show gI 0 ≤ 0 from by decide)]
          obtain ⟨S', k1, k2, k3, k4, k5⟩ := mt_two (h := h) w 4 gk_F _ u (Nat.le_refl _) (by unfold gk_F; omega) (a.code 0) (b.code 0) p4 (by rw [hl]; exact z2)
          refine ⟨S', k1, ?_, k3, k4, (mO.code a b 0).2.2.2.trans k5⟩
          rw [k2]
          exact gu_I2 _ _ _ _
        · rw [if_neg z2, if_neg z2, gs02l, gg_30_0, gu_I2, if_neg (show ¬ gI 2 ≤ 0 from by decide)]
          exact ⟨_, rfl, mO.code a b 2⟩
    | succ r ih =>
      intro n fu wr hr hn hf i1 i2
      obtain ⟨fu, rfl⟩ : ∃ f, fu = f + 1 := ⟨fu - 1, by omega⟩
      obtain ⟨e1, e2⟩ := tyB_b w (gN (8 * r))
      have et : (w >>> (((24 : Int32) - ((8 : Int32) * gI (4 - (r + 1)))) &&& 31)) &&& (255 : Int32) = tyB w (gN (8 * (r : Int))) := by
        rw [tyM w _ (by omega), show 3 - (4 - (r + 1)) = r by omega]
      rw [f_M_type_b7]
      unfold f_M_type_b41 f_M_type_b65 f_M_type_b69 f_M_type_b70
      dsimp only
      rw [gI_lit 4, ite_le _ _ _ _ (by decide) (by omega), if_neg (by omega), et, gk_let_eq, e1]
      rw [tyr] at i1 i2
      revert i1 i2
      generalize (tyB w (gN (8 * r))).toNatClampNeg = c at e2 ⊢
      intro i1 i2
      have z0 : ∀ {β : Type} (x y : β), (if gI c ≤ (0 : Int32) then x else y) = if c = 0 then x else y := fun x y => by
        rw [show (0 : Int32) = gI 0 from rfl, ite_le _ _ _ _ (by omega) (by decide)]
        by_cases q : c = 0
        · rw [if_pos q, if_pos (by omega)]
        · rw [if_neg q, if_neg (by omega)]
      have ek : gI (4 - (r + 1)) + (1 : Int32) = gI (4 - r) := by
        rw [show (1 : Int32) = gI 1 from rfl, gI_add, show 4 - (r + 1) + 1 = 4 - r by omega]
      simp only [z0, gk_let_eq, ek, ite_B]
      by_cases z : c = 0
      · rw [if_pos z] at i1 i2 ⊢
        rw [List.nil_append] at i1 i2
        have hw := ih n fu wr (by omega) (by omega) (by omega) i1 i2
        cases wr
        · rw [if_neg (by decide), if_pos z]
          exact hw
        · rw [if_pos rfl]
          exact hw
      · rw [if_neg z] at i1 i2 ⊢
        rw [List.length_append, List.length_singleton] at i2
        have eall : tyOk ([c] ++ tyr w r) = (decide (32 ≤ c ∧ c ≤ 126) && tyOk (tyr w r)) := rfl
        rw [eall] at i1
        have hn1 : gI n + (1 : Int32) = gI (n + 1) := gI_add n 1
        rw [gI_lit 32, ite_lt _ _ _ _ (by omega) (by decide), gI_lit 126, ite_le _ _ _ _ (by omega) (by decide)]
        have go : ∀ q : Bool, (q || !tyOk (tyr w r)) = (wr || !(decide (32 ≤ c ∧ c ≤ 126) && tyOk (tyr w r))) → ∃ S', f_M_type_b7 fu (some 30) w (gI (n + 1)) (gB q) (gI (4 - r)) (gv_ov h S) = some (anI (sp_type u w).1, gv_ov h S') ∧ mO S S' (cdN eAR (sp_type u w).1) L (sp_type u w).2 := fun q hq => ih (n + 1) fu q (by omega) (by omega) (by omega) (by rw [hq]; exact i1) (by omega)
        rw [hn1]
        cases wr
        · rw [if_neg (by decide), if_neg z]
          by_cases z1 : c < 32
          · rw [if_pos z1]
            exact go true (by rw [decide_eq_false (show ¬ (32 ≤ c ∧ c ≤ 126) by omega)]; rfl)
          · rw [if_neg z1]
            by_cases z2 : c ≤ 126
            · rw [if_pos z2]
              exact go false (by rw [decide_eq_true (show 32 ≤ c ∧ c ≤ 126 by omega)]; rfl)
            · rw [if_neg z2]
              exact go true (by rw [decide_eq_false (show ¬ (32 ≤ c ∧ c ≤ 126) by omega)]; rfl)
        · rw [if_pos rfl]
          exact go true rfl
  exact loop 4 0 gk_F false (Nat.le_refl _) (Nat.le_refl _) (by unfold gk_F; omega) (Bool.false_or _) (Nat.zero_add _)
end MS4
