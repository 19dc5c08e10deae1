/-! THE PURE PART: the class's stack, text under way, arrays -/
section ST4
variable {b b' cap n : Nat} {h h' : gk_H} {S : gv_S} {L : List gp_V} {u : List Nat} {i j : Nat} {V : gp_V} {l : List Nat}
theorem gp_str.mv (a : gp_str b h i l) (hk : gp_keep b h h') (hb : b' = b ∨ h.1 ≤ b') : gp_str b' h' i l := by
  obtain ⟨a1, a2, a3, a4, q, a5, a6, a7, a8⟩ := a
  have e1 := hk.2 i a1 a2.2.1 a2.2.2
  have e2 := hk.2 q a6 a7.2.1 a7.2.2
  have h1 := hk.1
  have z1 := a2.2.2
  have z2 := a7.2.2
  unfold gp_str gp_byt
  rw [e1]
  refine ⟨by omega, ⟨a2.1, a2.2.1, by omega⟩, a3, a4, q, a5, by omega, ⟨a7.1, a7.2.1, by omega⟩, ?_⟩
  rw [e2]
  exact a8
theorem gp_fld.mv {kind code r c : Nat} {amt : UInt64} {cs : Option Nat} (a : gp_fld b h i kind code amt l r c cs) (hk : gp_keep b h h') (hb : b' = b ∨ h.1 ≤ b') : gp_fld b' h' i kind code amt l r c cs := by
  obtain ⟨a1, a2, a3, a4, a5, a6, ⟨s, a7, a8⟩, a9⟩ := a
  have e := hk.2 i a1 a2.2.1 a2.2.2
  have h1 := hk.1
  have z1 := a2.2.2
  unfold gp_fld
  rw [e]
  exact ⟨by omega, ⟨a2.1, a2.2.1, by omega⟩, a3, a4, a5, a6, ⟨s, a7, a8.mv hk hb⟩, a9⟩
theorem gp_cell.mv {v : gp_C} (a : gp_cell b h i v) (hk : gp_keep b h h') (hb : b' = b ∨ h.1 ≤ b') : gp_cell b' h' i v := ⟨a.1, a.2.mv hk hb⟩
theorem gp_val.mv (a : gp_val b h i V) (hk : gp_keep b h h') (hb : b' = b ∨ h.1 ≤ b') : gp_val b' h' i V := by
  obtain ⟨a1, a2⟩ := a
  refine ⟨a1, ?_⟩
  have h1 := hk.1
  rcases a2 with ⟨z, q⟩ | ⟨z, x, q1, q2, q3, q4, q5, q6⟩
  · exact Or.inl ⟨z, q.mv hk hb⟩
  · have e := hk.2 x q2 q3.2.1 q3.2.2
    have z1 := q3.2.2
    refine Or.inr ⟨z, x, q1.mv hk hb, by omega, ⟨q3.1, q3.2.1, by omega⟩, by rw [e]; exact q4, by rw [e]; exact q5, fun k hk2 => ?_⟩
    obtain ⟨j, j1, j2⟩ := q6 k hk2
    exact ⟨j, by rw [e]; exact j1, j2.mv hk hb⟩
theorem cs_st.mv {cap' : Nat} {u' : List Nat} (q : cs_st b cap h S L u) (hk : gp_keep b h h') (hb : b' = b ∨ h.1 ≤ b') (hs : gp_sb h' 18 b' cap' u') (hu : u'.length ≤ 255) (ho : okT u') (hcap : cap' ≤ 600) : cs_st b' cap' h' S L u' := by
  obtain ⟨⟨a1, a2, a3⟩, ⟨b1, b2⟩, c1, d1, ⟨f1, f2, f3, f4, f5, f6⟩, g1⟩ := q
  have h44 := c1.1.1
  have hb16 := b1.2.2.2.2.2.1
  have k1 := hk.1
  have e : ∀ x, x < 16 → h'.2.2 x = h.2.2 x := fun x hx => hk.2 x (by omega) (by omega) (by omega)
  refine ⟨⟨a1, a2, fun m hm => ?_⟩, ⟨hs, hu, ho, hcap⟩, ⟨?_, hs.2.1, c1.2.2.1.mv hk hb, c1.2.2.2.1.mv hk hb, c1.2.2.2.2.1.mv hk hb, c1.2.2.2.2.2.1.mv hk hb, c1.2.2.2.2.2.2.mv hk hb⟩, ?_, ?_, g1.mv hk hb⟩
  · obtain ⟨i, i1, i2⟩ := a3 m hm
    exact ⟨i, i1, i2.mv hk hb⟩
  · unfold gp_st
    rw [e 0 (by decide)]
    exact ⟨by omega, c1.1.2⟩
  · unfold gp_dy
    rw [e 3 (by decide)]
    exact ⟨by omega, d1.2⟩
  · unfold gp_ay
    rw [e 1 (by decide), e 2 (by decide)]
    exact ⟨f1, f2, f3, f4, f5, f6⟩
theorem gp_gr.keep {a a' cap cap' n : Nat} (g : gp_gr h h' 18 a a' cap cap' n) : gp_keep a h h' := ⟨g.1, fun i hi h1 h2 => g.2.2.2.2.2.2 i hi h1 h2⟩
theorem t_app (q : cs_st b cap h S L u) (c : Nat) (hc1 : 32 ≤ c) (hc2 : c ≤ 126) (hu : u.length < 255) : ∃ h' b' cap', f_SB_append_C (some 18) (gI c) (gv_ov h S) = some (some 18, gv_ov h' S) ∧ cs_st b' cap' h' S L (u ++ [c]) ∧ gp_gw 0 0 cap cap' h h' := by
  have q1 := q.2.1
  obtain ⟨h', b', cap', e1, e2, e3⟩ := b_appC (S := S) q.2.2.1.1 q1.1 c (by omega) (by omega) (by omega)
  refine ⟨h', b', cap', e1, q.mv e3.keep ?_ e2 (by rw [List.length_append, List.length_singleton]; omega) (q1.2.2.1.app (okT.one hc1 hc2)) ?_, ?_⟩
  · exact e3.2.2.2.2.2.1
  · have := e3.2.2.2.2.1
    omega
  · obtain ⟨g1, g2, g3, g4, -, -, g7⟩ := e3
    have hb16 := q1.1.2.2.2.2.2.1
    exact ⟨by omega, by omega, g4, fun i hi hl => ⟨by omega, g7 i hl (by omega) (by omega)⟩⟩
def tyB (w k : Int32) : Int32 := (Int32.toUInt32 w >>> (Int32.toUInt32 k &&& Int32.toUInt32 31)).toInt32 &&& (255 : Int32)
theorem and255 (x : Int32) : ∃ n, x &&& (255 : Int32) = gI n ∧ n ≤ 255 := by
  refine ⟨x.toBitVec.toNat &&& 255, ?_, Nat.and_le_right⟩
  have hle : x.toBitVec.toNat &&& 255 ≤ 255 := Nat.and_le_right
  apply Int32.toBitVec_inj.mp
  apply BitVec.eq_of_toNat_eq
  show (x.toBitVec &&& 255#32).toNat = (BitVec.ofNat 32 (x.toBitVec.toNat &&& 255)).toNat
  rw [BitVec.toNat_and]
  show x.toBitVec.toNat &&& 255 = (BitVec.ofNat 32 (x.toBitVec.toNat &&& 255)).toNat
  rw [BitVec.toNat_ofNat, Nat.mod_eq_of_lt (by omega)]
theorem tyB_b (w k : Int32) : tyB w k = gI (tyB w k).toNatClampNeg ∧ (tyB w k).toNatClampNeg ≤ 255 := by
  obtain ⟨n, e, hn⟩ := and255 ((Int32.toUInt32 w >>> (Int32.toUInt32 k &&& Int32.toUInt32 31)).toInt32)
  have e' : tyB w k = gI n := e
  rw [e', gI_nat _ (by omega)]
  exact ⟨rfl, hn⟩
def tyr (w : Int32) : Nat → List Nat
  | 0 => []
  | r + 1 => (if (tyB w (gN (8 * r))).toNatClampNeg = 0 then [] else [(tyB w (gN (8 * r))).toNatClampNeg]) ++ tyr w r
def tyOk (l : List Nat) : Bool := l.all fun c => decide (32 ≤ c ∧ c ≤ 126)
theorem tyOk_okT {l : List Nat} (h : tyOk l = true) : okT l := fun c hc => of_decide_eq_true (List.all_eq_true.mp h c hc)
theorem tyr_len (w : Int32) : ∀ r, (tyr w r).length ≤ r
  | 0 => Nat.le_refl _
  | r + 1 => by
    have := tyr_len w r
    rw [tyr, List.length_append]
    split
    · rw [List.length_nil]
      omega
    · rw [List.length_singleton]
      omega
def sp_type (u : List Nat) (w : Int32) : Sum Int32 String × List Nat := if tyOk (tyr w 4) = true then (if u.length + (tyr w 4).length ≤ 255 then (.inl (gI (u ++ tyr w 4).length), u ++ tyr w 4) else (.inr eST, u)) else (.inr eAR, u)
theorem gI_m8 : (-8 : Int32) = gN (-8) := by decide
theorem t_type2 (w : Int32) : ∀ (r fu : Nat) (b cap : Nat) (h : gk_H) (u : List Nat), r ≤ 4 → r < fu → cs_st b cap h S L u → tyOk (tyr w r) = true → u.length + (tyr w r).length ≤ 255 → cM cap h S (f_A_type_b84 fu (some 16) w (gN (8 * (r : Int) - 8)) (gv_ov h S)) (.inl (gI (u ++ tyr w r).length)) L (u ++ tyr w r) 1 6 := by
  intro r
  induction r with
  | zero =>
    intro fu b cap h u hr hf q hok hl
    obtain ⟨fu, rfl⟩ : ∃ f, fu = f + 1 := ⟨fu - 1, by omega⟩
    rw [f_A_type_b84]
    dsimp only
    rw [nte_lt0 _ _ _ (by omega) (by omega), if_pos (by omega), gr_16_2, gp_cv q.2.1.1.2.2.1 q.2.1.1.2.2.2.2.2.2.1, b_len q.2.1.1, gk_ca_some, show tyr w 0 = [] from rfl, List.append_nil]
    exact cM.ret q _
  | succ r ih =>
    intro fu b cap h u hr hf q hok hl
    obtain ⟨fu, rfl⟩ : ∃ f, fu = f + 1 := ⟨fu - 1, by omega⟩
    obtain ⟨e1, e2⟩ := tyB_b w (gN (8 * r))
    have ev : (8 * ((r + 1 : Nat) : Int) - 8) = 8 * (r : Int) := by omega
    have es : gN (8 * (r : Int)) + (-8 : Int32) = gN (8 * (r : Int) - 8) := by
      rw [gI_m8, gN_add]
      rfl
    rw [f_A_type_b84, ev]
    unfold f_A_type_b113
    dsimp only
    have eb : (Int32.toUInt32 w >>> (Int32.toUInt32 (gN (8 * (r : Int))) &&& Int32.toUInt32 31)).toInt32 &&& (255 : Int32) = tyB w (gN (8 * r)) := rfl
    rw [nte_lt0 _ _ _ (by omega) (by omega), if_neg (by omega), eb, gk_let_eq, e1]
    rw [tyr] at hok hl ⊢
    generalize (tyB w (gN (8 * r))).toNatClampNeg = c at e2 hok hl ⊢
    have z0 : ∀ {β : Type} (x y : β), (if gI c = (0 : Int32) then x else y) = if c = 0 then x else y := fun x y => ite_eq x y c 0 (by omega) (by decide)
    rw [z0]
    by_cases z : c = 0
    · rw [if_pos z] at hok hl ⊢
      rw [if_pos z, gk_let_eq, es]
      rw [List.nil_append] at hok hl ⊢
      exact ih fu b cap h u (by omega) (by omega) q hok hl
    · rw [if_neg z] at hok hl ⊢
      have ok2 := tyOk_okT hok c (by simp)
      rw [List.length_append, List.length_singleton] at hl
      obtain ⟨h', b', cap', p1, p2, p3⟩ := t_app q c ok2.1 ok2.2 (by omega)
      rw [if_neg z, gr_16_2, gp_cv q.2.1.1.2.2.1 q.2.1.1.2.2.2.2.2.2.1, gI_ch (by omega), p1, gk_ca_some, gk_let_eq, es]
      have hok' : tyOk (tyr w r) = true := by
        unfold tyOk at hok ⊢
        rw [List.all_append, Bool.and_eq_true] at hok
        exact hok.2
      obtain ⟨h2, S2, b2, c2, k1, k2, k3, k4⟩ := ih fu b' cap' h' (u ++ [c]) (by omega) (by omega) p2 hok' (by rw [List.length_append, List.length_singleton]; omega)
      rw [List.append_assoc] at k1 k2
      exact ⟨h2, S2, b2, c2, k1, k2, k3, (p3.trans k4).le (by omega) (by omega)⟩
theorem t_type (q : cs_st b cap h S L u) (w : Int32) : cM cap h S (f_A_type (some 16) w (gv_ov h S)) (sp_type u w).1 L (sp_type u w).2 1 6 := by
  have hu := q.2.1.2.1
  have loop : ∀ (r a fu : Nat), r ≤ 4 → a + r ≤ 4 → r < fu → cM cap h S (f_A_type_b5 fu (some 16) w (gI a) (gN (8 * (r : Int) - 8)) (gv_ov h S)) (if tyOk (tyr w r) = true then (if u.length + (a + (tyr w r).length) ≤ 255 then (sp_type u w).1 else .inr eST) else .inr eAR) L (if tyOk (tyr w r) = true then (if u.length + (a + (tyr w r).length) ≤ 255 then (sp_type u w).2 else u) else u) 1 6 ∨ ¬ (tyOk (tyr w r) = true ∧ u.length + (a + (tyr w r).length) ≤ 255 → tyOk (tyr w 4) = true ∧ u.length + (tyr w 4).length ≤ 255) := by
    intro r
    induction r with
    | zero =>
      intro a fu hr ha hf
      obtain ⟨fu, rfl⟩ : ∃ f, fu = f + 1 := ⟨fu - 1, by omega⟩
      by_cases hyp : (tyOk (tyr w 0) = true ∧ u.length + (a + (tyr w 0).length) ≤ 255 → tyOk (tyr w 4) = true ∧ u.length + (tyr w 4).length ≤ 255)
      · refine Or.inl ?_
        rw [f_A_type_b5]
        dsimp only
        rw [nte_lt0 _ _ _ (by omega) (by omega), if_pos (by omega), gr_16_2, gp_cv q.2.1.1.2.2.1 q.2.1.1.2.2.2.2.2.2.1, b_len q.2.1.1, gk_ca_some, gI_add, gI_lit 255, ite_le _ _ _ _ (by omega) (by decide), if_pos (show tyOk (tyr w 0) = true from rfl), if_pos (show tyOk (tyr w 0) = true from rfl), show (tyr w 0).length = 0 from rfl, Nat.add_zero]
        by_cases z : u.length + a ≤ 255
        · rw [if_pos z, if_pos z, if_pos z]
          obtain ⟨y1, y2⟩ := hyp ⟨rfl, z⟩
          unfold sp_type
          rw [if_pos y1, if_pos y2]
          exact t_type2 w 4 gk_F b cap h u (Nat.le_refl _) (by unfold gk_F; omega) q y1 y2
        · rw [if_neg z, if_neg z, if_neg z]
          exact cM.thr q eST
      · exact Or.inr hyp
    | succ r ih =>
      intro a fu hr ha hf
      obtain ⟨fu, rfl⟩ : ∃ f, fu = f + 1 := ⟨fu - 1, by omega⟩
      obtain ⟨e1, e2⟩ := tyB_b w (gN (8 * r))
      have ev : (8 * ((r + 1 : Nat) : Int) - 8) = 8 * (r : Int) := by omega
      have es : gN (8 * (r : Int)) + (-8 : Int32) = gN (8 * (r : Int) - 8) := by
        rw [gI_m8, gN_add]
        rfl
      rw [f_A_type_b5, ev]
      unfold f_A_type_b50 f_A_type_b37
      dsimp only
      have eb : (Int32.toUInt32 w >>> (Int32.toUInt32 (gN (8 * (r : Int))) &&& Int32.toUInt32 31)).toInt32 &&& (255 : Int32) = tyB w (gN (8 * r)) := rfl
      rw [nte_lt0 _ _ _ (by omega) (by omega), if_neg (by omega), eb, gk_let_eq, e1]
      rw [tyr]
      generalize (tyB w (gN (8 * r))).toNatClampNeg = c at e2 ⊢
      have z0 : ∀ {β : Type} (x y : β), (if gI c = (0 : Int32) then x else y) = if c = 0 then x else y := fun x y => ite_eq x y c 0 (by omega) (by decide)
      rw [z0, gI_lit 32, ite_lt _ _ _ _ (by omega) (by decide), gI_lit 126, ite_le _ _ _ _ (by omega) (by decide)]
      by_cases z : c = 0
      · rw [if_pos z, if_pos z, gk_let_eq, es, List.nil_append]
        exact ih a fu (by omega) (by omega) (by omega)
      · rw [if_neg z, if_neg z]
        have eall : tyOk ([c] ++ tyr w r) = (decide (32 ≤ c ∧ c ≤ 126) && tyOk (tyr w r)) := rfl
        by_cases z1 : c < 32
        · refine Or.inl ?_
          rw [if_pos z1, eall, decide_eq_false (show ¬ (32 ≤ c ∧ c ≤ 126) by omega), Bool.false_and, if_neg (by decide), if_neg (by decide)]
          exact cM.thr q eAR
        · rw [if_neg z1]
          by_cases z2 : c ≤ 126
          · rw [if_pos z2, gk_let_eq, gk_let_eq, es, show gI a + (1 : Int32) = gI (a + 1) from gI_add a 1, eall, decide_eq_true (show 32 ≤ c ∧ c ≤ 126 by omega), Bool.true_and, List.length_append, List.length_singleton, show a + (1 + (tyr w r).length) = a + 1 + (tyr w r).length by omega]
            exact ih (a + 1) fu (by omega) (by omega) (by omega)
          · refine Or.inl ?_
            rw [if_neg z2, eall, decide_eq_false (show ¬ (32 ≤ c ∧ c ≤ 126) by omega), Bool.false_and, if_neg (by decide), if_neg (by decide)]
            exact cM.thr q eAR
  have := (loop 4 0 gk_F (Nat.le_refl _) (Nat.le_refl _) (by unfold gk_F; omega)).resolve_right (fun w => w (by rw [Nat.zero_add]; exact id))
  rw [Nat.zero_add] at this
  unfold f_A_type
  have e1 : (if tyOk (tyr w 4) = true then (if u.length + (tyr w 4).length ≤ 255 then (sp_type u w).1 else .inr eST) else .inr eAR) = (sp_type u w).1 := by
    unfold sp_type
    split
    · split <;> rfl
    · rfl
  have e2 : (if tyOk (tyr w 4) = true then (if u.length + (tyr w 4).length ≤ 255 then (sp_type u w).2 else u) else u) = (sp_type u w).2 := by
    unfold sp_type
    split
    · split <;> rfl
    · rfl
  rw [e1, e2] at this
  exact this
end ST4
