/-! THE PURE PART: the reference replaces, searches, looks at texts; joins -/
theorem sbt_at (old fr : List Nat) (all : Bool) (only : Int) (m : Nat) (t mz : List Nat) (fo : Nat) : sp_sbt old fr all only (m + 1) t mz fo = if t = [] ∨ 255 < mz.length then mz else if old ≠ [] ∧ old.isPrefixOf t = true then sp_sbt old fr all only m (t.drop old.length) (mz ++ (if all = true ∨ ((fo : Int) + 1 = only) then fr else old)) (fo + 1) else sp_sbt old fr all only m (t.drop 1) (mz ++ [t.getD 0 0]) fo := rfl
theorem pt_one {l : List Nat} {k : Nat} (hk : k < l.length) : pt l k ((k + 1 : Nat) : Int) = [l.getD k 0] := by
  rw [pt_step l k _ (by omega), pt_end l _ _ (by omega)]
theorem pt_pre {l p : List Nat} {k : Nat} (h : p.isPrefixOf (l.drop k) = true) (hk : k ≤ l.length) : pt l k ((k + p.length : Nat) : Int) = p ∧ k + p.length ≤ l.length := by
  obtain ⟨h1, h2⟩ := (pre_iff _ _).mp h
  rw [List.length_drop] at h1
  refine ⟨?_, by omega⟩
  obtain ⟨r, er⟩ := List.isPrefixOf_iff_prefix.mp h
  unfold pt
  rw [show ((k : Int)).toNat = k from rfl, show (min ((k + p.length : Nat) : Int) (l.length : Int) - (k : Int)).toNat = p.length by omega, ← er, List.take_left']
  rfl
section MSU
variable {h : gk_H} {S S0 S1 T : gv_S} {a n f : Nat} {vs : Nat → gp_V} {l L : List Nat} {w : Nat}
theorem msb_78 {old fr : List Nat} (ok : okT l) (oko : okT old) (okf : okT fr) (all : Bool) (which only : Int) (hw1 : all = true → which = 0) (hw2 : all = false → which = only ∧ 1 ≤ only) (hw3 : only < 9007199254740992) : ∀ (m fu k fo : Nat) (T : gv_S) (L : List Nat), l.length - k ≤ m → m < fu → k ≤ l.length → fo ≤ k → mW T 0 l → mW T 1 old → mW T 2 fr → mBd T L → ∃ T', f_M_substitute_b78 fu (some 30) (gJ which) (gI k) (gJ (fo : Int)) (gv_ov h T) = some ((), gv_ov h T') ∧ mX mAb T T' ∧ mBd T' (sp_sbt old fr all only m (l.drop k) L fo) := by
  have b225 : ∀ h : gk_H, f_M_substitute_b225 h = some ((), h) := fun _ => rfl
  have hwb : 0 ≤ which ∧ which < 9007199254740992 := by
    cases all
    · have := hw2 rfl
      omega
    · have := hw1 rfl
      omega
  intro m
  induction m with
  | zero =>
    intro fu k fo T L hm hf hk hfo h0 h1 h2 hB
    obtain ⟨fu, rfl⟩ : ∃ g, fu = g + 1 := ⟨fu - 1, by omega⟩
    have hl := h0.1
    rw [f_M_substitute_b78]
    dsimp only
    rw [gr_30_14, ga_40z, h0.2.2.1, ite_le _ _ _ _ (by omega) (by omega), if_pos (by omega), b225]
    exact ⟨T, rfl, mX.refl _ _, hB⟩
  | succ m ih =>
    intro fu k fo T L hm hf hk hfo h0 h1 h2 hB
    obtain ⟨fu, rfl⟩ : ∃ g, fu = g + 1 := ⟨fu - 1, by omega⟩
    have hl := h0.1
    have hol := h1.1
    have hfl := h2.1
    rw [f_M_substitute_b78]
    dsimp only
    rw [gr_30_14, ga_40z, h0.2.2.1, ite_le _ _ _ _ (by omega) (by omega), sbt_at]
    by_cases zk : l.length ≤ k
    · rw [if_pos zk, b225, if_pos (Or.inl (List.drop_of_length_le zk))]
      exact ⟨T, rfl, mX.refl _ _, hB⟩
    · have hkl : k < l.length := by omega
      have hne : l.drop k ≠ [] := fun y => by
        have := congrArg List.length y
        rw [List.length_drop, List.length_nil] at this
        omega
      rw [if_neg zk, gg_30_11]
      by_cases zL : 255 < L.length
      · have hb : T.1 30 11 = gI 3 := by
          have := hB.2
          rw [if_neg (by omega)] at this
          exact this
        rw [hb, ite0 3 (by decide), if_neg (show ¬ (3 = 0) by decide), b225, if_pos (Or.inr zL)]
        exact ⟨T, rfl, mX.refl _ _, hB⟩
      · have hb : T.1 30 11 = gI 0 := by
          have := hB.2
          rw [if_pos (by omega)] at this
          exact this.1
        rw [hb, ite0 0 (by decide), if_pos rfl, gr_30_14, ga_40o, h1.2.2.1, inl0 _ (by omega), if_neg (show ¬ (l.drop k = [] ∨ 255 < L.length) from fun y => y.elim hne (fun y2 => zL y2))]
        have hc0 : (l.drop k).getD 0 0 = l.getD k 0 := by rw [getD_drop]; rfl
        -- nothing here
        have away : ¬ (old ≠ [] ∧ old.isPrefixOf (l.drop k) = true) → ∃ T', f_M_substitute_b120 (f_M_substitute_b78 fu) (some 30) (gJ which) (gI k) (gJ (fo : Int)) (gv_ov h T) = some ((), gv_ov h T') ∧ mX mAb T T' ∧ mBd T' (if old ≠ [] ∧ old.isPrefixOf (l.drop k) = true then sp_sbt old fr all only m ((l.drop k).drop old.length) (L ++ (if all = true ∨ ((fo : Int) + 1 = only) then fr else old)) (fo + 1) else sp_sbt old fr all only m ((l.drop k).drop 1) (L ++ [(l.drop k).getD 0 0]) fo) := fun z => by
          obtain ⟨T1, e1, e2, e3⟩ := m_addPart0 (h := h) h0 ok hB (k : Int) ((k + 1 : Nat) : Int) (by omega) (by omega) (by omega) (by omega)
          rw [pt_one hkl] at e3
          obtain ⟨T2, p1, p2, p3⟩ := ih fu (k + 1) fo T1 (L ++ [l.getD k 0]) (by omega) (by omega) (by omega) (by omega) (h0.ab e2) (h1.ab e2) (h2.ab e2) e3
          unfold f_M_substitute_b120 f_M_substitute_b121 f_M_substitute_b137 f_M_substitute_b184 f_M_substitute_b205 f_M_substitute_b222
          rw [if_pos (show (0 : Int32) = 0 from rfl), if_pos (show (0 : Int32) = 0 from rfl), if_pos (show (0 : Int32) = 0 from rfl), show gI k + (1 : Int32) = gI (k + 1) from gI_add _ 1, i2l_255 (by omega), i2l_255 (by omega), gc_30, e1, gk_ca_some, p1, if_neg z, List.drop_drop, hc0]
          exact ⟨T2, rfl, e2.trans p2, p3⟩
        by_cases zo : old.length ≤ 0
        · rw [if_pos zo]
          exact away fun y => y.1 (List.length_eq_zero_iff.mp (by omega))
        · have hoe : old ≠ [] := fun y => zo (by rw [y]; decide)
          have hat := m_isAt (h := h) (w := 0) (o := 1) (by decide) (by decide) h0 h1 hk
          have hat' : f_M_isAt (some 30) (0 : Int32) (gI k) (1 : Int32) (gv_ov h T) = _ := hat
          rw [if_neg zo, gc_30, hat', gk_ca_some, ite_B]
          by_cases zp : old.isPrefixOf (l.drop k) = true
          · obtain ⟨ep, ek⟩ := pt_pre zp hk
            rw [if_pos zp, if_pos ⟨hoe, zp⟩, List.drop_drop]
            have i1 : gJ (fo : Int) + (1 : Int64) = gJ ((fo + 1 : Nat) : Int) := gJ_add _ 1
            have i2 : gI k + gI old.length = gI (k + old.length) := gI_add _ _
            -- the old one stays
            have b184 : ¬ (all = true ∨ ((fo : Int) + 1 = only)) → ∃ T', f_M_substitute_b184 (f_M_substitute_b78 fu) (some 30) (gJ which) (gI k) (gJ ((fo + 1 : Nat) : Int)) (1 : Int32) (gv_ov h T) = some ((), gv_ov h T') ∧ mX mAb T T' ∧ mBd T' (sp_sbt old fr all only m (l.drop (k + old.length)) (L ++ (if all = true ∨ ((fo : Int) + 1 = only) then fr else old)) (fo + 1)) := fun z => by
              obtain ⟨T1, e1, e2, e3⟩ := m_addPart0 (h := h) h0 ok hB (k : Int) ((k + old.length : Nat) : Int) (by omega) (by omega) (by omega) (by omega)
              rw [ep] at e3
              obtain ⟨T2, p1, p2, p3⟩ := ih fu (k + old.length) (fo + 1) T1 (L ++ old) (by omega) (by omega) (by omega) (by omega) (h0.ab e2) (h1.ab e2) (h2.ab e2) e3
              unfold f_M_substitute_b184 f_M_substitute_b205 f_M_substitute_b222
              rw [if_neg (show ¬ ((1 : Int32) = 0) by decide), gr_30_14, ga_40o, h1.2.2.1, i2, i2l_255 (by omega), i2l_255 (by omega), gc_30, e1, gk_ca_some, p1, if_neg z]
              exact ⟨T2, rfl, e2.trans p2, p3⟩
            have b157 : (all = true ∨ ((fo : Int) + 1 = only)) → ∃ T', f_M_substitute_b157 (f_M_substitute_b78 fu) (some 30) (gJ which) (gI k) (gJ ((fo + 1 : Nat) : Int)) (gv_ov h T) = some ((), gv_ov h T') ∧ mX mAb T T' ∧ mBd T' (sp_sbt old fr all only m (l.drop (k + old.length)) (L ++ (if all = true ∨ ((fo : Int) + 1 = only) then fr else old)) (fo + 1)) := fun z => by
              obtain ⟨T1, e1, e2, e3⟩ := m_addPart2 (h := h) h2 okf hB 0 (fr.length : Int) (by decide) (by decide) (by omega) (by omega)
              have epf : pt fr 0 (fr.length : Int) = fr := by
                unfold pt
                rw [show (min (fr.length : Int) (fr.length : Int) - 0).toNat = fr.length by omega]
                exact List.take_length
              rw [epf] at e3
              obtain ⟨T2, p1, p2, p3⟩ := ih fu (k + old.length) (fo + 1) T1 (L ++ fr) (by omega) (by omega) (by omega) (by omega) (h0.ab e2) (h1.ab e2) (h2.ab e2) e3
              unfold f_M_substitute_b157 f_M_substitute_b222
              rw [gr_30_14, ga_40t, h2.2.2.1, i2l_255 (by omega), show (0 : Int64) = gJ 0 from rfl, gc_30, e1, gk_ca_some, gr_30_14, ga_40o, (h1.ab e2).2.2.1, i2, gk_let_eq, p1, if_pos z]
              exact ⟨T2, rfl, e2.trans p2, p3⟩
            unfold f_M_substitute_b121 f_M_substitute_b137
            rw [if_neg (show ¬ ((1 : Int32) = 0) by decide), if_neg (show ¬ ((1 : Int32) = 0) by decide), i1, show (0 : Int64) = gJ 0 from rfl, jte_eq _ _ _ _ (by omega) (by omega) (by decide) (by decide), jte_eq _ _ _ _ (by omega) (by omega) (by omega) (by omega)]
            cases all
            · obtain ⟨v1, v2⟩ := hw2 rfl
              rw [if_neg (show ¬ which = 0 by omega)]
              by_cases y : which = ((fo + 1 : Nat) : Int)
              · rw [if_pos y]
                exact b157 (Or.inr (by omega))
              · rw [if_neg y]
                exact b184 (by rintro (q | q); cases q; omega)
            · rw [if_pos (hw1 rfl)]
              exact b157 (Or.inl rfl)
          · rw [if_neg zp]
            exact away fun y => zp y.2
theorem wo_66 (vs : Nat → gp_V) (n : Nat) : sp_wo 66 vs n = sx (bl (bl (bl (sT vs 0).1 (sT vs 1).1) (sT vs 2).1) (oW vs n 3)) (if oX vs n 3 < 1 then gc_e 3 else gc_txt (sp_sbt (sT vs 1).2 (sT vs 2).2 (!decide (4 ≤ n)) (oX vs n 3) (sT vs 0).2.length (sT vs 0).2 [] 0)) := by
  unfold sp_wo
  rw [if_neg (by decide), if_neg (by decide), if_neg (by decide), if_neg (by decide), if_neg (by decide), if_neg (by decide), if_neg (by decide), if_pos (by decide)]
theorem mo_substitute (g : mG S a vs n) (qT : mX mSt S T) (hb : T.1 30 11 = gI (sT vs 0).1) (hW : mW T 0 (sT vs 0).2) (hn3 : 3 ≤ n) (hn4 : n ≤ 4) : mF h S (f_M_substitute (some 30) (gI a) (gI n) (gv_ov h T)) (gV_1 (sp_wo 66 vs n)) := by
  have h16 := g.1
  obtain ⟨t1, t2, t3⟩ := g.sT (k := 0) (by omega)
  obtain ⟨u1, u2, u3⟩ := g.sT (k := 1) (by omega)
  obtain ⟨v1, v2, v3⟩ := g.sT (k := 2) (by omega)
  have gT := g.st qT
  obtain ⟨A, a1, a2, a3, a4⟩ := m_txtT (h := h) gT (k := 1) (w := 1) (by omega) (by decide) hb t1
  have qA : mX mSt S A := qT.trans (a2.le fun _ _ z => mWq_st z)
  have hE1 := bl_le t1 u1
  obtain ⟨B, b1, b2, b3, b4⟩ := m_txtT (h := h) (g.st qA) (k := 2) (w := 2) (by omega) (by decide) a3 hE1
  have qB : mX mSt S B := qA.trans (b2.le fun _ _ z => mWq_st z)
  have hE2 := bl_le hE1 v1
  have w0 : mW B 0 (sT vs 0).2 := (hW.wq a2 (by decide) (by decide) (by decide)).wq b2 (by decide) (by decide) (by decide)
  have w1 : mW B 1 (if (sT vs 0).1 = 0 then (sT vs 1).2 else []) := a4.wq b2 (by decide) (by decide) (by decide)
  have a1' : f_M_wantText (some 30) (gI (a + 1)) (1 : Int32) (gv_ov h T) = _ := a1
  have b1' : f_M_wantText (some 30) (gI (a + 2)) (2 : Int32) (gv_ov h A) = _ := b1
  -- behind the wants
  have b32 : ∀ (C : gv_S) (i : Int) (e : Nat), mX mSt S C → C.1 30 11 = gI e → e ≤ 8 → -9007199254740992 < i → i < 9007199254740992 → (e = 0 → mW C 0 (sT vs 0).2 ∧ mW C 1 (sT vs 1).2 ∧ mW C 2 (sT vs 2).2 ∧ (n = 4 → i = oX vs n 3) ∧ (n = 3 → i = 0)) → mF h S (f_M_substitute_b32 (some 30) (gI n) (gJ i) (gv_ov h C)) (gV_1 (sx e (if oX vs n 3 < 1 then gc_e 3 else gc_txt (sp_sbt (sT vs 1).2 (sT vs 2).2 (!decide (4 ≤ n)) (oX vs n 3) (sT vs 0).2.length (sT vs 0).2 [] 0)))) := by
    intro C i e qC hC he i1 i2 inv
    have b56e : ∀ (D : gv_S) (e : Nat), mX mSt S D → D.1 30 11 = gI e → e ≠ 0 → e ≤ 8 → mF h S (f_M_substitute_b56 (some 30) (gJ i) (gv_ov h D)) (gV_1 (gc_e e)) := fun D e qD hD h0 h8 => by
      unfold f_M_substitute_b56
      rw [gg_30_11, hD, bad_gt e h0 h8]
      exact mF.err qD hD h0 h8
    unfold f_M_substitute_b32
    rw [gg_30_11, hC, ite0 e he, gI_lit 4, ite_eq _ _ _ _ (by omega) (by decide), show (1 : Int64) = gJ 1 from rfl, jte_ge _ _ _ _ (by omega) (by omega) (by decide) (by decide)]
    by_cases z : e = 0
    · obtain ⟨c0, c1, c2, c4, c3⟩ := inv z
      rw [z] at hC
      have o3 : n = 3 → oX vs n 3 = 1 := fun y => by
        unfold oX
        rw [if_neg (by omega)]
      have b56 : (n = 4 → 1 ≤ i) → mF h S (f_M_substitute_b56 (some 30) (gJ i) (gv_ov h C)) (gV_1 (if oX vs n 3 < 1 then gc_e 3 else gc_txt (sp_sbt (sT vs 1).2 (sT vs 2).2 (!decide (4 ≤ n)) (oX vs n 3) (sT vs 0).2.length (sT vs 0).2 [] 0))) := fun hi => by
        have ho : ¬ oX vs n 3 < 1 := by
          have : n = 3 ∨ n = 4 := by omega
          rcases this with y | y
          · rw [o3 y]
            decide
          · rw [← c4 y]
            have := hi y
            omega
        obtain ⟨D, s1, s2, s3⟩ := mBd.nil (h := h) hC
        have qD : mX mSt S D := qC.trans (s2.le fun _ _ z => mSet_st z)
        have hall : (!decide (4 ≤ n)) = true → i = 0 := fun y => c3 (by
          have : ¬ 4 ≤ n := by simpa using y
          omega)
        have hsome : (!decide (4 ≤ n)) = false → i = oX vs n 3 ∧ 1 ≤ oX vs n 3 := fun y => by
          have : 4 ≤ n := by simpa using y
          have y4 : n = 4 := by omega
          have := hi y4
          have := c4 y4
          omega
        have hob : oX vs n 3 < 9007199254740992 := by
          have : n = 3 ∨ n = 4 := by omega
          rcases this with y | y
          · rw [o3 y]
            decide
          · rw [← c4 y]
            exact i2
        obtain ⟨E, p1, p2, p3⟩ := msb_78 (h := h) t3 u3 v3 (!decide (4 ≤ n)) i (oX vs n 3) hall hsome hob (sT vs 0).2.length gk_F 0 0 D [] (by omega) (by unfold gk_F; omega) (Nat.zero_le _) (Nat.le_refl _) (c0.set s2) (c1.set s2) (c2.set s2) s3
        have p1' : f_M_substitute_b78 gk_F (some 30) (gJ i) (0 : Int32) (0 : Int64) (gv_ov h D) = _ := p1
        unfold f_M_substitute_b56
        rw [gg_30_11, hC, itl0 0 (by decide), if_pos rfl, gc_30, s1, gk_ca_some, p1', if_neg ho]
        exact p3.F (qD.trans (p2.le fun _ _ z => mAb_st z))
      rw [if_pos z, show ∀ c : gp_C, sx e c = c from fun c => if_pos z]
      by_cases y4 : n = 4
      · rw [if_pos y4]
        by_cases yi : 1 ≤ i
        · rw [if_pos yi]
          exact b56 fun _ => yi
        · rw [if_neg yi, gc_30, gI_lit 3, m_fail 0 3 hC (by decide), gk_ca_some, bl_n, if_pos (show oX vs n 3 < 1 by rw [← c4 y4]; omega)]
          exact b56e _ 3 (qC.trans (mX.I _ (mB_st ⟨rfl, rfl⟩))) (gu11 3) (by decide) (by decide)
      · rw [if_neg y4]
        exact b56 fun y => absurd y y4
    · rw [if_neg z, show ∀ c : gp_C, sx e c = gc_e e from fun c => if_neg z]
      exact b56e C e qC hC z he
  have inv0 : bl (bl (sT vs 0).1 (sT vs 1).1) (sT vs 2).1 = 0 → mW B 0 (sT vs 0).2 ∧ mW B 1 (sT vs 1).2 ∧ mW B 2 (sT vs 2).2 := fun z => by
    have z1 := (bl_z.mp z).1
    have z0 := (bl_z.mp z1).1
    rw [if_pos z0] at w1
    rw [if_pos z1] at b4
    exact ⟨w0, w1, b4⟩
  unfold f_M_substitute
  rw [show gI a + (1 : Int32) = gI (a + 1) from gI_add _ 1, gc_30, a1', gk_ca_some, show gI a + (2 : Int32) = gI (a + 2) from gI_add _ 2, gc_30, b1', gk_ca_some, gI_lit 4, ite_eq _ _ _ _ (by omega) (by decide), wo_66]
  by_cases y4 : n = 4
  · obtain ⟨x1, x2, x3⟩ := g.sW (k := 3) (by omega)
    obtain ⟨C, c1, c2, c3⟩ := m_whoW (h := h) (g.st qB) (k := 3) (by omega) b3 hE2
    have qC : mX mSt S C := qB.trans (c2.le fun _ _ z => mQ_st z)
    have eo : oW vs n 3 = sW vs 3 := if_pos (by omega)
    have eX : oX vs n 3 = sw_x vs 3 := if_pos (by omega)
    have := b32 C (if bl (bl (sT vs 0).1 (sT vs 1).1) (sT vs 2).1 = 0 then sw_x vs 3 else 0) _ qC c3 (bl_le hE2 x1) (by split <;> omega) (by split <;> omega) (fun z => by
      have z2 := (bl_z.mp z).1
      obtain ⟨i0, i1, i2⟩ := inv0 z2
      exact ⟨i0.q c2, i1.q c2, i2.q c2, fun _ => by rw [if_pos z2, eX], fun y => by omega⟩)
    rw [if_pos y4, show gI a + (3 : Int32) = gI (a + 3) from gI_add _ 3, gc_30, c1, gk_ca_some, eo]
    exact this
  · have eo : oW vs n 3 = 0 := if_neg (by omega)
    have := b32 B 0 _ qB b3 hE2 (by decide) (by decide) (fun z => by
      obtain ⟨i0, i1, i2⟩ := inv0 z
      exact ⟨i0, i1, i2, fun y => absurd y y4, fun _ => rfl⟩)
    rw [if_neg y4, eo, bl_0]
    exact this
end MSU
