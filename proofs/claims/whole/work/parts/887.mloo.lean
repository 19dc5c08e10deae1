/-! THE PURE PART: the reference's lookups (74 to 80) -/
theorem lo_76 (vs : Nat → gp_V) (n : Nat) : sp_lo 76 vs n = sxV (bl (sW vs 1) (oW vs n 2)) (sp_ix vs n) := by
  unfold sp_lo
  rw [if_neg (by decide), if_neg (by decide), if_pos (by decide)]
theorem lo_77 (vs : Nat → gp_V) (n : Nat) : sp_lo 77 vs n = gV_1 (sx (bl (sp_err (sp_1 (vs 0))) (oW vs n 2)) (sp_mat vs n)) := by
  unfold sp_lo
  rw [if_neg (by decide), if_neg (by decide), if_neg (by decide), if_pos (by decide)]
theorem lo_78 (vs : Nat → gp_V) (n : Nat) : sp_lo 78 vs n = gV_1 (sx (bl (bl (sp_err (sp_1 (vs 0))) (sW vs 2)) (oTe vs n 3)) (sp_lu vs n (vs 1))) := by
  unfold sp_lo
  rw [if_neg (by decide), if_neg (by decide), if_neg (by decide), if_neg (by decide), if_pos (by decide)]
theorem lo_79 (vs : Nat → gp_V) (n : Nat) : sp_lo 79 vs n = gV_1 (sx (bl (bl (sp_err (sp_1 (vs 0))) (sW vs 2)) (oTe vs n 3)) (sp_lu vs n (sp_tp (vs 1)))) := by
  unfold sp_lo
  rw [if_neg (by decide), if_neg (by decide), if_neg (by decide), if_neg (by decide), if_neg (by decide), if_pos (by decide)]
section MLO
variable {h : gk_H} {S S0 S1 T : gv_S} {a n f : Nat} {vs : Nat → gp_V} {V : gp_V} {x w : gp_C}
theorem i2l_16 {m : Nat} (hm : m ≤ 16) : Int32.toInt64 (gI m) = gJ (m : Int) := i2l_n hm
/-- a section is the answer -/
theorem m_partF {v row col hi wi : Nat} (hm : mv S v V) (hv : v < 16) (h1 : 1 ≤ hi) (h2 : 1 ≤ wi) (hr : row + hi ≤ V.2.1) (hc : col + wi ≤ V.2.2.1) (q : mX mSt S0 S) (hb : S.1 30 11 = gI 0) : mF h S0 (f_M_part (some 30) (gI v) (gI row) (gI (row + hi)) (gI col) (gI (col + wi)) (gv_ov h S)) (sp_sec V row col hi wi false) := by
  obtain ⟨T, e1, e2, e3, e4⟩ := m_part (h := h) hm hv h1 h2 hr hc
  rw [e1]
  exact mF.val (q.trans e2) (e3.trans hb) e4
theorem ixV_cell {r c : Int} (h1 : 0 < r) (h2 : 0 < c) (h3 : ¬ ((V.2.1 : Int) < r ∨ (V.2.2.1 : Int) < c)) : sp_ixV V r c = gV_1 (V.2.2.2 ((r.toNat - 1) * V.2.2.1 + (c.toNat - 1))) := by
  unfold sp_ixV
  rw [if_neg (by omega), if_neg h3, if_pos ⟨h1, h2⟩]
theorem ixV_sec {r c : Int} (h0 : ¬ (r < 0 ∨ c < 0)) (h1 : ¬ (0 < r ∧ 0 < c)) (h3 : ¬ ((V.2.1 : Int) < r ∨ (V.2.2.1 : Int) < c)) : sp_ixV V r c = sp_sec V (if 0 < r then r.toNat - 1 else 0) (if 0 < c then c.toNat - 1 else 0) (if 0 < r then 1 else V.2.1) (if 0 < c then 1 else V.2.2.1) false := by
  unfold sp_ixV
  rw [if_neg h0, if_neg h3, if_neg h1]
/-- the end of INDEX, its place found -/
theorem mix_114 {v : Nat} (hm : mv S v V) (hv : v < 16) (q : mX mSt S0 S) (hb : S.1 30 11 = gI 0) (i j r c : Int) (hi1 : -9007199254740992 < i) (hi2 : i < 9007199254740992) (hj1 : -9007199254740992 < j) (hj2 : j < 9007199254740992) (hr1 : -9007199254740992 < r) (hr2 : r < 9007199254740992) (hc1 : -9007199254740992 < c) (hc2 : c < 9007199254740992) (hrc : ¬ (i < 0 ∨ j < 0) → 0 ≤ r ∧ 0 ≤ c) (W : gp_V) (hW3 : i < 0 ∨ j < 0 → W = gV_1 (gc_e 3)) (hWo : ¬ (i < 0 ∨ j < 0) → ∃ r' c', W = sp_ixV V r' c' ∧ 0 ≤ r' ∧ 0 ≤ c' ∧ ((r' = r ∧ c' = c) ∨ (V.2.1 = 1 ∧ r' = 1 ∧ r = 0 ∧ c' = c ∧ c = 0) ∨ (V.2.2.1 = 1 ∧ c' = 1 ∧ c = 0 ∧ r' = r ∧ r = 0))) : mF h S0 (f_M_index_b114 (some 30) (gI v) (gJ i) (gJ j) (gJ r) (gJ c) (gv_ov h S)) W := by
  obtain ⟨l1, l2⟩ := hm.sh
  have v1 := hm.1.1
  have v2 := hm.1.2.1
  have c0 : (0 : Int64) = gJ 0 := rfl
  have c1 : (1 : Int64) = gJ 1 := rfl
  have b129 : mF h S0 (f_M_index_b129 (some 30) (gv_ov h S)) (gV_1 (gc_e 3)) := by
    unfold f_M_index_b129
    rw [gc_30, gu_idU, gI_lit 3, m_fail 0 3 hb (by decide), bl_n]
    exact mF.err (q.trans (mX.I _ (mB_st ⟨rfl, rfl⟩))) (gu11 3) (by decide) (by decide)
  have b161 : mF h S0 (f_M_index_b161 (some 30) (gv_ov h S)) (gV_1 (gc_e 4)) := by
    unfold f_M_index_b161
    rw [gc_30, gu_idU, gI_lit 4, m_fail 0 4 hb (by decide), bl_n]
    exact mF.err (q.trans (mX.I _ (mB_st ⟨rfl, rfl⟩))) (gu11 4) (by decide) (by decide)
  unfold f_M_index_b114
  rw [c0, jte_lt _ _ _ _ (by omega) (by omega) (by decide) (by decide), jte_ge _ _ _ _ (by omega) (by omega) (by decide) (by decide)]
  by_cases z3 : i < 0 ∨ j < 0
  · rw [hW3 z3]
    by_cases y : i < 0
    · rw [if_pos y]
      exact b129
    · rw [if_neg y, if_neg (by omega)]
      exact b129
  · obtain ⟨r', c', eW, p1, p2, p3⟩ := hWo z3
    obtain ⟨n1, n2⟩ := hrc z3
    have e4 : ((V.2.1 : Int) < r ∨ (V.2.2.1 : Int) < c) ↔ ((V.2.1 : Int) < r' ∨ (V.2.2.1 : Int) < c') := by omega
    have eX4 : ((V.2.1 : Int) < r' ∨ (V.2.2.1 : Int) < c') → W = gV_1 (gc_e 4) := fun y => by
      rw [eW]
      unfold sp_ixV
      rw [if_neg (by omega), if_pos y]
    rw [if_neg (by omega), if_pos (by omega), gr_30_5, ga_33 (by omega), hm.2.2.1, i2l_16 l1, jte_gt _ _ _ _ (by omega) (by omega) (by omega) (by omega)]
    by_cases yr : (V.2.1 : Int) < r
    · rw [if_pos yr, eX4 (e4.mp (Or.inl yr))]
      exact b161
    · rw [if_neg yr, gr_30_6, ga_34 (by omega), hm.2.2.2.1, i2l_16 l2, jte_le _ _ _ _ (by omega) (by omega) (by omega) (by omega)]
      by_cases yc : c ≤ (V.2.2.1 : Int)
      · have n4 : ¬ ((V.2.1 : Int) < r' ∨ (V.2.2.1 : Int) < c') := fun y => by
          have := e4.mpr y
          omega
        -- a section
        have b211 : ¬ (0 < r ∧ 0 < c) → mF h S0 (f_M_index_b211 (some 30) (gI v) (gJ r) (gJ c) (gv_ov h S)) W := by
          intro ns
          have nss : ¬ (0 < r' ∧ 0 < c') := by omega
          rw [eW, ixV_sec (by omega) nss n4]
          have esec : sp_sec V (if 0 < r' then r'.toNat - 1 else 0) (if 0 < c' then c'.toNat - 1 else 0) (if 0 < r' then 1 else V.2.1) (if 0 < c' then 1 else V.2.2.1) false = sp_sec V (if r = 0 then 0 else r.toNat - 1) (if c = 0 then 0 else c.toNat - 1) (if r = 0 then V.2.1 else 1) (if c = 0 then V.2.2.1 else 1) false := by
            have a1 : (if 0 < r' then r'.toNat - 1 else 0) = (if r = 0 then 0 else r.toNat - 1) := by split <;> split <;> omega
            have a2 : (if 0 < c' then c'.toNat - 1 else 0) = (if c = 0 then 0 else c.toNat - 1) := by split <;> split <;> omega
            have a3 : (if 0 < r' then 1 else V.2.1) = (if r = 0 then V.2.1 else 1) := by split <;> split <;> omega
            have a4 : (if 0 < c' then 1 else V.2.2.1) = (if c = 0 then V.2.2.1 else 1) := by split <;> split <;> omega
            rw [a1, a2, a3, a4]
          rw [esec]
          have hR : (if r = 0 then 0 else r.toNat - 1) + (if r = 0 then V.2.1 else 1) ≤ V.2.1 := by split <;> omega
          have hC : (if c = 0 then 0 else c.toNat - 1) + (if c = 0 then V.2.2.1 else 1) ≤ V.2.2.1 := by split <;> omega
          have fin := m_partF (h := h) (S0 := S0) hm hv (show 1 ≤ (if r = 0 then V.2.1 else 1) by split <;> omega) (show 1 ≤ (if c = 0 then V.2.2.1 else 1) by split <;> omega) hR hC q hb
          have b283 : ∀ (A B C D : Int32), A = gI (if r = 0 then 0 else r.toNat - 1) → B = gI ((if r = 0 then 0 else r.toNat - 1) + (if r = 0 then V.2.1 else 1)) → C = gI (if c = 0 then 0 else c.toNat - 1) → D = gI ((if c = 0 then 0 else c.toNat - 1) + (if c = 0 then V.2.2.1 else 1)) → mF h S0 (f_M_index_b283 (some 30) (gI v) A B C D (gv_ov h S)) (sp_sec V (if r = 0 then 0 else r.toNat - 1) (if c = 0 then 0 else c.toNat - 1) (if r = 0 then V.2.1 else 1) (if c = 0 then V.2.2.1 else 1) false) := fun A B C D a1 a2 a3 a4 => by
            unfold f_M_index_b283
            rw [gc_30, a1, a2, a3, a4]
            have e : (gk_ca (f_M_part (some 30) (gI v) (gI (if r = 0 then 0 else r.toNat - 1)) (gI ((if r = 0 then 0 else r.toNat - 1) + (if r = 0 then V.2.1 else 1))) (gI (if c = 0 then 0 else c.toNat - 1)) (gI ((if c = 0 then 0 else c.toNat - 1) + (if c = 0 then V.2.2.1 else 1))) (gv_ov h S)) fun _ h1 => f_M_index_b286 h1) = f_M_part (some 30) (gI v) (gI (if r = 0 then 0 else r.toNat - 1)) (gI ((if r = 0 then 0 else r.toNat - 1) + (if r = 0 then V.2.1 else 1))) (gI (if c = 0 then 0 else c.toNat - 1)) (gI ((if c = 0 then 0 else c.toNat - 1) + (if c = 0 then V.2.2.1 else 1))) (gv_ov h S) := gu_idU _
            rw [e]
            exact fin
          have tr : r ≠ 0 → Int64.toInt32 (gJ r) = gI r.toNat := fun _ => gJ_nI n1 (by omega)
          have tc : c ≠ 0 → Int64.toInt32 (gJ c) = gI c.toNat := fun _ => gJ_nI n2 (by omega)
          have b264 : ∀ (A B C : Int32), A = gI (if r = 0 then 0 else r.toNat - 1) → B = gI ((if r = 0 then 0 else r.toNat - 1) + (if r = 0 then V.2.1 else 1)) → C = gI (if c = 0 then 0 else c.toNat - 1) → mF h S0 (f_M_index_b264 (some 30) (gI v) (gJ c) (some 30) (gI v) A B C (gv_ov h S)) (sp_sec V (if r = 0 then 0 else r.toNat - 1) (if c = 0 then 0 else c.toNat - 1) (if r = 0 then V.2.1 else 1) (if c = 0 then V.2.2.1 else 1) false) := fun A B C a1 a2 a3 => by
            unfold f_M_index_b264
            rw [c0, jte_eq _ _ _ _ (by omega) (by omega) (by decide) (by decide)]
            by_cases y : c = 0
            · rw [if_pos y, gr_30_6, ga_34 (by omega), hm.2.2.2.1]
              exact b283 _ _ _ _ a1 a2 a3 (by rw [if_pos y, if_pos y, Nat.zero_add])
            · rw [if_neg y, tc y]
              exact b283 _ _ _ _ a1 a2 a3 (by rw [if_neg y, if_neg y]; congr 1; omega)
          have b248 : ∀ (A B : Int32), A = gI (if r = 0 then 0 else r.toNat - 1) → B = gI ((if r = 0 then 0 else r.toNat - 1) + (if r = 0 then V.2.1 else 1)) → mF h S0 (f_M_index_b248 (some 30) (gI v) (gJ c) (some 30) (gI v) A B (gv_ov h S)) (sp_sec V (if r = 0 then 0 else r.toNat - 1) (if c = 0 then 0 else c.toNat - 1) (if r = 0 then V.2.1 else 1) (if c = 0 then V.2.2.1 else 1) false) := fun A B a1 a2 => by
            unfold f_M_index_b248
            rw [c0, jte_eq _ _ _ _ (by omega) (by omega) (by decide) (by decide)]
            by_cases y : c = 0
            · rw [if_pos y]
              exact b264 _ _ _ a1 a2 (by rw [if_pos y]; rfl)
            · rw [if_neg y, tc y, show gI c.toNat - (1 : Int32) = gI (c.toNat - 1) from gI_sub _ 1 (by omega)]
              exact b264 _ _ _ a1 a2 (by rw [if_neg y])
          have b229 : ∀ (A : Int32), A = gI (if r = 0 then 0 else r.toNat - 1) → mF h S0 (f_M_index_b229 (some 30) (gI v) (gJ r) (gJ c) (some 30) (gI v) A (gv_ov h S)) (sp_sec V (if r = 0 then 0 else r.toNat - 1) (if c = 0 then 0 else c.toNat - 1) (if r = 0 then V.2.1 else 1) (if c = 0 then V.2.2.1 else 1) false) := fun A a1 => by
            unfold f_M_index_b229
            rw [c0, jte_eq _ _ _ _ (by omega) (by omega) (by decide) (by decide)]
            by_cases y : r = 0
            · rw [if_pos y, gr_30_5, ga_33 (by omega), hm.2.2.1]
              exact b248 _ _ a1 (by rw [if_pos y, if_pos y, Nat.zero_add])
            · rw [if_neg y, tr y]
              exact b248 _ _ a1 (by rw [if_neg y, if_neg y]; congr 1; omega)
          unfold f_M_index_b211
          rw [c0, jte_eq _ _ _ _ (by omega) (by omega) (by decide) (by decide)]
          by_cases y : r = 0
          · rw [if_pos y]
            exact b229 _ (by rw [if_pos y]; rfl)
          · rw [if_neg y, tr y, show gI r.toNat - (1 : Int32) = gI (r.toNat - 1) from gI_sub _ 1 (by omega)]
            exact b229 _ (by rw [if_neg y])
        rw [if_pos yc, jte_le _ _ _ _ (by omega) (by omega) (by decide) (by decide), jte_le _ _ _ _ (by omega) (by omega) (by decide) (by decide)]
        by_cases zr : r ≤ 0
        · rw [if_pos zr]
          exact b211 (by omega)
        · rw [if_neg zr]
          by_cases zc : c ≤ 0
          · rw [if_pos zc]
            exact b211 (by omega)
          · have er : r' = r := by omega
            have ec : c' = c := by omega
            obtain ⟨R, hR⟩ : ∃ R : Nat, r = ((R + 1 : Nat) : Int) := ⟨r.toNat - 1, by omega⟩
            obtain ⟨C, hC⟩ : ∃ C : Nat, c = ((C + 1 : Nat) : Int) := ⟨c.toNat - 1, by omega⟩
            have hp : R * V.2.2.1 + C < V.2.1 * V.2.2.1 := by
              have h1 := Nat.mul_le_mul_right V.2.2.1 (show R + 1 ≤ V.2.1 by omega)
              rw [Nat.add_mul, Nat.one_mul] at h1
              omega
            have h16 := hm.1.2.2.1
            obtain ⟨T, d1, d2, d3, d4⟩ := m_ansC (h := h) (hm.2.2.2.2 _ hp) (hm.1.2.2.2.1 _ hp) (show 16 * v + (R * V.2.2.1 + C) < 256 by omega) hb
            rw [if_neg zc, eW, er, ec, ixV_cell (by omega) (by omega) (by omega), hR, hC, gr_30_6, ga_34 (by omega), hm.2.2.2.1, gJ_toI (R + 1) (by omega), gJ_toI (C + 1) (by omega), show gI (R + 1) - (1 : Int32) = gI R from gI_sub (R + 1) 1 (by omega), gI_mul, gI_lit 16, gI_mul, gI_add, gI_add, show gI (16 * v + R * V.2.2.1 + (C + 1)) - (1 : Int32) = gI (16 * v + (R * V.2.2.1 + C)) from by rw [show gI (16 * v + R * V.2.2.1 + (C + 1)) - (1 : Int32) = gI (16 * v + R * V.2.2.1 + (C + 1) - 1) from gI_sub _ 1 (by omega)]; congr 1; omega, gc_30, d1, gk_ca_some]
            show mF h S0 (some ((), gv_ov h T)) _
            exact mF.val (q.trans d2) d4 d3
      · rw [if_neg yc, eX4 (e4.mp (Or.inr (by omega)))]
        exact b161
theorem mo_index (g : mG S a vs n) (hb : S.1 30 11 = gI 0) (hn2 : 2 ≤ n) (hn3 : n ≤ 3) : mF h S (f_M_index (some 30) (gI a) (gI n) (gv_ov h S)) (sp_lo 76 vs n) := by
  have h16 := g.1
  obtain ⟨w1, w2, w3⟩ := g.sW (k := 1) (by omega)
  obtain ⟨T, e1, e2, e3⟩ := m_whoW (h := h) g (k := 1) (by omega) hb (by decide)
  rw [bl_n] at e3
  rw [if_pos rfl] at e1
  have qT : mX mSt S T := e2.le fun _ _ z => mQ_st z
  have c0 : (0 : Int64) = gJ 0 := rfl
  have c1 : (1 : Int64) = gJ 1 := rfl
  have b24 : ∀ (U : gv_S) (j : Int) (e : Nat), mX mSt S U → U.1 30 11 = gI e → e ≤ 8 → -9007199254740992 < j → j < 9007199254740992 → (e = 0 → j = oX0 vs n 2) → mF h S (f_M_index_b24 (some 30) (gI a) (gI n) (gJ (sw_x vs 1)) (gJ j) (gv_ov h U)) (sxV e (sp_ix vs n)) := by
    intro U j e qU hU he j1 j2 inv
    have hm0 := (g.st qU).2 0 (by omega)
    rw [Nat.add_zero] at hm0
    obtain ⟨l1, l2⟩ := hm0.sh
    have v1 := hm0.1.1
    have v2 := hm0.1.2.1
    unfold f_M_index_b24
    rw [gg_30_11, hU, itl0 e he]
    by_cases z : e = 0
    · rw [z] at hU
      have ej := inv z
      have ej0 : n = 2 → j = 0 := fun y => by
        rw [ej]
        unfold oX0
        rw [if_neg (by omega)]
      rw [if_pos z, show ∀ W : gp_V, sxV e W = W from fun W => if_pos z, gI_lit 2, ite_eq _ _ _ _ (by omega) (by decide), gr_30_5, ga_33 (by omega), hm0.2.2.1, gI_lit 1, ite_eq _ _ _ _ (by omega) (by decide)]
      -- not along a row
      have b53 : ¬ (n = 2 ∧ (vs 0).2.1 = 1) → mF h S (f_M_index_b53 (some 30) (gI a) (gI n) (gJ (sw_x vs 1)) (gJ j) (gv_ov h U)) (sp_ix vs n) := by
        intro na
        unfold f_M_index_b53 f_M_index_b54 f_M_index_b76 f_M_index_b112
        rw [if_pos (show (0 : Int32) = 0 from rfl), if_pos (show (0 : Int32) = 0 from rfl), gI_lit 2, ite_eq _ _ _ _ (by omega) (by decide), gr_30_6, ga_34 (by omega), hm0.2.2.2.1, gI_lit 1, ite_eq _ _ _ _ (by omega) (by decide), c0, jte_eq _ _ _ _ (by omega) (by omega) (by decide) (by decide)]
        unfold sp_ix
        rw [if_neg na]
        by_cases y2 : n = 2
        · rw [if_pos y2]
          by_cases yc : (vs 0).2.2.1 = 1
          · rw [if_pos yc, if_pos (show n = 2 ∧ (vs 0).2.2.1 = 1 from ⟨y2, yc⟩)]
            have hj0 := ej0 y2
            by_cases yi : sw_x vs 1 = 0
            · rw [if_pos yi]
              refine mix_114 hm0 (by omega) qU hU _ _ _ _ w2 w3 j1 j2 w2 w3 j1 j2 (fun _ => by omega) _ (fun y => by omega) fun _ => ⟨sw_x vs 1, 1, rfl, by omega, by decide, Or.inr (Or.inr ⟨yc, rfl, hj0, rfl, yi⟩)⟩
            · rw [if_neg yi, c1]
              refine mix_114 hm0 (by omega) qU hU _ _ _ _ w2 w3 j1 j2 w2 w3 (by decide) (by decide) (fun _ => by omega) _ (fun y => ?_) fun y => ⟨sw_x vs 1, 1, rfl, by omega, by decide, Or.inl ⟨rfl, rfl⟩⟩
              unfold sp_ixV
              rw [if_pos (by omega)]
          · rw [if_neg yc, if_neg (show ¬ (n = 2 ∧ (vs 0).2.2.1 = 1) from fun y => yc y.2)]
            refine mix_114 hm0 (by omega) qU hU _ _ _ _ w2 w3 j1 j2 w2 w3 j1 j2 (fun _ => by omega) _ (fun y => ?_) fun y => ⟨sw_x vs 1, oX0 vs n 2, rfl, by omega, by omega, Or.inl ⟨rfl, ej.symm⟩⟩
            unfold sp_ixV
            rw [if_pos (by omega)]
        · rw [if_neg y2, if_neg (show ¬ (n = 2 ∧ (vs 0).2.2.1 = 1) from fun y => y2 y.1)]
          refine mix_114 hm0 (by omega) qU hU _ _ _ _ w2 w3 j1 j2 w2 w3 j1 j2 (fun _ => by omega) _ (fun y => ?_) fun y => ⟨sw_x vs 1, oX0 vs n 2, rfl, by omega, by omega, Or.inl ⟨rfl, ej.symm⟩⟩
          unfold sp_ixV
          rw [if_pos (by omega)]
      by_cases y2 : n = 2
      · rw [if_pos y2]
        by_cases yr : (vs 0).2.1 = 1
        · rw [if_pos yr]
          have hj0 := ej0 y2
          unfold f_M_index_b54 f_M_index_b76
          rw [if_neg (show ¬ (gI 1 = 0) by decide), if_neg (show ¬ (gI 1 = 0) by decide), if_neg (show ¬ (gI 1 = 0) by decide), c0, c1, jte_eq _ _ _ _ (by omega) (by omega) (by decide) (by decide)]
          unfold sp_ix
          rw [if_pos (show n = 2 ∧ (vs 0).2.1 = 1 from ⟨y2, yr⟩)]
          by_cases yi : sw_x vs 1 = 0
          · rw [if_pos yi]
            refine mix_114 hm0 (by omega) qU hU _ _ _ _ w2 w3 j1 j2 (by decide) (by decide) w2 w3 (fun _ => by omega) _ (fun y => by omega) fun _ => ⟨1, sw_x vs 1, rfl, by decide, by omega, Or.inr (Or.inl ⟨yr, rfl, rfl, rfl, yi⟩)⟩
          · rw [if_neg yi]
            refine mix_114 hm0 (by omega) qU hU _ _ _ _ w2 w3 j1 j2 (by decide) (by decide) w2 w3 (fun _ => by omega) _ (fun y => ?_) fun y => ⟨1, sw_x vs 1, rfl, by decide, by omega, Or.inl ⟨rfl, rfl⟩⟩
            unfold sp_ixV
            rw [if_pos (by omega)]
        · rw [if_neg yr]
          exact b53 fun y => yr y.2
      · rw [if_neg y2]
        exact b53 fun y => y2 y.1
    · rw [if_neg z, show ∀ W : gp_V, sxV e W = gV_1 (gc_e e) from fun W => if_neg z]
      exact mF.err qU hU z he
  unfold f_M_index
  rw [show gI a + (1 : Int32) = gI (a + 1) from gI_add _ 1, gc_30, e1, gk_ca_some, gI_lit 3, ite_eq _ _ _ _ (by omega) (by decide), lo_76]
  by_cases y3 : n = 3
  · obtain ⟨x1, x2, x3⟩ := g.sW (k := 2) (by omega)
    obtain ⟨U, p1, p2, p3⟩ := m_whoW (h := h) (g.st qT) (k := 2) (by omega) e3 w1
    have qU : mX mSt S U := qT.trans (p2.le fun _ _ z => mQ_st z)
    have eo : oW vs n 2 = sW vs 2 := if_pos (by omega)
    have eX : oX0 vs n 2 = sw_x vs 2 := if_pos (by omega)
    have := b24 U (if sW vs 1 = 0 then sw_x vs 2 else 0) _ qU p3 (bl_le w1 x1) (by split <;> omega) (by split <;> omega) (fun z => by rw [if_pos (bl_z.mp z).1, eX])
    rw [if_pos y3, show gI a + (2 : Int32) = gI (a + 2) from gI_add _ 2, gc_30, p1, gk_ca_some, eo]
    exact this
  · have eo : oW vs n 2 = 0 := if_neg (by omega)
    have eX : oX0 vs n 2 = 0 := if_neg (by omega)
    have := b24 T 0 _ qT e3 w1 (by decide) (by decide) (fun _ => eX.symm)
    rw [if_neg y3, eo, bl_0]
    exact this
end MLO
