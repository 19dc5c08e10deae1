/-! THE PURE PART: the reference's lookups (74 to 80), all: along rows and columns -/
section MLC
variable {h : gk_H} {S S0 S1 T : gv_S} {a n f : Nat} {vs : Nat → gp_V} {V : gp_V} {x w : gp_C}
/-- the line is found, and its cell the answer -/
def luM (vs : Nat → gp_V) (n : Nat) (W : gp_V) (I : Nat) : gp_C := match sp_pl (sp_wt (sp_1 (vs 0))) (fun p => W.2.2.2 (p * W.2.2.1)) W.2.1 (if oT vs n 3 = true then 1 else 0) with
  | none => gc_e 7
  | some p => W.2.2.2 (p * W.2.2.1 + I)
def luA (d : Nat) (V : gp_V) (p i : Nat) : Nat := if d = 0 then i * V.2.2.1 + p else p * V.2.2.1 + i
theorem luA_in {d : Nat} {W : gp_V} (hw1 : W.2.1 = if d = 0 then V.2.2.1 else V.2.1) (hw2 : W.2.2.1 = if d = 0 then V.2.1 else V.2.2.1) {p i : Nat} (hp : p < W.2.1) (hi : i < W.2.2.1) : luA d V p i < V.2.1 * V.2.2.1 := by
  have inb : ∀ r c, r < V.2.1 → c < V.2.2.1 → r * V.2.2.1 + c < V.2.1 * V.2.2.1 := fun r c a1 a2 => by
    have h1 := Nat.mul_le_mul_right V.2.2.1 (show r + 1 ≤ V.2.1 by omega)
    rw [Nat.add_mul, Nat.one_mul] at h1
    omega
  unfold luA
  by_cases y : d = 0
  · rw [if_pos y] at hw1 hw2 ⊢
    exact inb i p (by omega) (by omega)
  · rw [if_neg y] at hw1 hw2 ⊢
    exact inb p i (by omega) (by omega)
theorem mlu_160 {U : gv_S} (qU : mX mSt S U) (hU : U.1 30 11 = gI 0) {d : Nat} (hd : d ≤ 1) {W : gp_V} (hm1 : mv U (a + 1) (vs 1)) (ha : a + 1 < 16) (x1 : mc U (16 * a) (sp_1 (vs 0))) (x2 : gp_okC (sp_1 (vs 0))) (o4 : (sp_1 (vs 0)).1 ≠ 4) (w16 : W.2.1 ≤ 16) (hin : ∀ p i, p < W.2.1 → i < W.2.2.1 → luA d (vs 1) p i < (vs 1).2.1 * (vs 1).2.2.1) (hw : ∀ p i, p < W.2.1 → i < W.2.2.1 → W.2.2.2 (p * W.2.2.1 + i) = (vs 1).2.2.2 (luA d (vs 1) p i)) {i : Int} {I : Nat} (hI : i = ((I + 1 : Nat) : Int)) (hI2 : I < W.2.2.1) (hI3 : I < 16) {t : Nat} (ht : t ≤ 1) (z2 : t = 0 ↔ ¬ oT vs n 3 = true) {ap : Nat} (hap : ap = if d = 0 then 1 else (vs 1).2.2.1) : mF h S (f_M_lookup_b160 (some 30) (gI d) (gI a) (gJ i) (gI t) (gI (vs 1).2.2.1) (some 30) (gI (16 * a)) ((16 : Int32) * gI (a + 1)) (gI W.2.1) (gI ap) (gv_ov h U)) (gV_1 (luM vs n W I)) := by
  have v3 := hm1.1.2.2.1
  obtain ⟨l1, l2⟩ := hm1.sh
  have hcl : ∀ p, p < W.2.1 → mc U (16 * (a + 1) + p * ap) (W.2.2.2 (p * W.2.2.1)) ∧ gp_okC (W.2.2.2 (p * W.2.2.1)) ∧ 16 * (a + 1) + p * ap < 256 := fun p hp => by
    have e0 := hw p 0 hp (by omega)
    have e1 := hin p 0 hp (by omega)
    have ep : luA d (vs 1) p 0 = p * ap := by
      unfold luA
      rw [hap]
      by_cases y : d = 0
      · rw [if_pos y, if_pos y, Nat.zero_mul, Nat.zero_add, Nat.mul_one]
      · rw [if_neg y, if_neg y, Nat.add_zero]
    rw [Nat.add_zero] at e0
    rw [ep] at e0 e1
    rw [e0]
    exact ⟨hm1.2.2.2.2 _ e1, hm1.1.2.2.2.1 _ e1, by omega⟩
  have key : ∀ way : Nat, (way = if oT vs n 3 = true then 1 else 0) → mF h S (f_M_lookup_b170 (some 30) (gI d) (gI a) (gJ i) (gI (vs 1).2.2.1) (some 30) (gI (16 * a)) ((16 : Int32) * gI (a + 1)) (gI W.2.1) (gI ap) (gI way) (gv_ov h U)) (gV_1 (luM vs n W I)) := by
    intro way hway
    have ew : (if oT vs n 3 = true then (1 : Int) else 0) = (way : Int) := by
      rw [hway]
      split <;> rfl
    have hm := m_match (h := h) x1 x2 (by omega) o4 w16 hcl (way : Int) (by
      rw [hway]
      by_cases y : oT vs n 3 = true
      · rw [if_pos y]
        exact Or.inr (Or.inl rfl)
      · rw [if_neg y]
        exact Or.inl rfl)
    have hm' : f_M_match (some 30) (gI (16 * a)) (gI (16 * (a + 1))) (gI W.2.1) (gI ap) (gI way) (gv_ov h U) = _ := hm
    have hpl : ∀ z, sp_pl (sp_wt (sp_1 (vs 0))) (fun p => W.2.2.2 (p * W.2.2.1)) W.2.1 (way : Int) = some z → z < W.2.1 := fun z hz => sp_pl_b hz
    unfold f_M_lookup_b170 luM
    rw [ew, gI_lit 16, gI_mul, gc_30, hm', gk_ca_some, oI_neg _ (fun z hz => by have := hpl z hz; omega)]
    generalize sp_pl (sp_wt (sp_1 (vs 0))) (fun p => W.2.2.2 (p * W.2.2.1)) W.2.1 (way : Int) = o at hpl ⊢
    cases o with
    | none =>
      rw [if_pos rfl, gc_30, gu_idU, gI_lit 7, m_fail 0 7 hU (by decide), bl_n]
      exact mF.err (qU.trans (mX.I _ (mB_st ⟨rfl, rfl⟩))) (gu11 7) (by decide) (by decide)
    | some p =>
      have hp := hpl p rfl
      have hq := hin p I hp hI2
      have eC := hw p I hp hI2
      rw [if_neg (fun y => by cases y), ine0 _ (by omega), show oI (some p) = gI p from rfl, hI, gJ_toI (I + 1) (by omega), show gI a + (1 : Int32) = gI (a + 1) from gI_add _ 1, gI_mul]
      show mF h S _ (gV_1 (W.2.2.2 (p * W.2.2.1 + I)))
      rw [eC]
      have fin : ∀ q, q < (vs 1).2.1 * (vs 1).2.2.1 → mF h S (f_M_lookup_b223 (some 30) (gI (16 * (a + 1))) (gI q) (gv_ov h U)) (gV_1 ((vs 1).2.2.2 q)) := fun q hq => by
        obtain ⟨T, d1, d2, d3, d4⟩ := m_ansC (h := h) (hm1.2.2.2.2 _ hq) (hm1.1.2.2.2.1 _ hq) (show 16 * (a + 1) + q < 256 by omega) hU
        unfold f_M_lookup_b223
        rw [gc_30, gu_idU, gI_add, d1]
        exact mF.val (qU.trans d2) d4 d3
      unfold luA at hq ⊢
      by_cases y : d = 0
      · rw [if_pos y] at hq
        rw [if_pos y, if_pos y, show gI (I + 1) - (1 : Int32) = gI I from gI_sub (I + 1) 1 (by omega), gI_mul, gI_add]
        exact fin _ hq
      · rw [if_neg y] at hq
        rw [if_neg y, if_neg y, gI_mul, gI_add, show gI (p * (vs 1).2.2.1 + (I + 1)) - (1 : Int32) = gI (p * (vs 1).2.2.1 + I) from gI_sub (p * (vs 1).2.2.1 + (I + 1)) 1 (by omega)]
        exact fin _ hq
  unfold f_M_lookup_b160
  rw [ine0 _ (by omega)]
  by_cases y : t = 0
  · rw [if_pos y]
    exact key 0 (by rw [if_neg (z2.mp y)])
  · rw [if_neg y]
    exact key 1 (by rw [if_pos (Classical.byContradiction fun q => y (z2.mpr q))])
theorem mlu_36 (g : mG S a vs n) (hn3 : 3 ≤ n) {d : Nat} (hd : d ≤ 1) {W : gp_V} (hw1 : W.2.1 = if d = 0 then (vs 1).2.2.1 else (vs 1).2.1) (hw2 : W.2.2.1 = if d = 0 then (vs 1).2.1 else (vs 1).2.2.1) (hw : ∀ p i, p < W.2.1 → i < W.2.2.1 → W.2.2.2 (p * W.2.2.1 + i) = (vs 1).2.2.2 (luA d (vs 1) p i)) (U : gv_S) (i : Int) (e t : Nat) (qU : mX mSt S U) (hU : U.1 30 11 = gI e) (he : e ≤ 8) (i1 : -9007199254740992 < i) (i2 : i < 9007199254740992) (ht : t ≤ 1) (inv : e = 0 → sp_err (sp_1 (vs 0)) = 0 ∧ i = sw_x vs 2 ∧ (t = 0 ↔ ¬ oT vs n 3 = true)) : mF h S (f_M_lookup_b36 (some 30) (gI d) (gI a) (gI (16 * a)) (gJ i) (gI t) (gv_ov h U)) (gV_1 (sx e (sp_lu vs n W))) := by
  have h16 := g.1
  have hm1 := (g.st qU).2 1 (by omega)
  have hmU0 := (g.st qU).2 0 (by omega)
  rw [Nat.add_zero] at hmU0
  obtain ⟨l1, l2⟩ := hm1.sh
  have v1 := hm1.1.1
  have v2 := hm1.1.2.1
  have v3 := hm1.1.2.2.1
  have c1 : (1 : Int64) = gJ 1 := rfl
  unfold f_M_lookup_b36
  rw [gg_30_11, hU, itl0 e he]
  by_cases z : e = 0
  · obtain ⟨z0, z1, z2⟩ := inv z
    obtain ⟨o1, o4⟩ := one_of hmU0.1 z0
    obtain ⟨x1, x2⟩ := hmU0.c0 o1
    rw [z] at hU
    rw [if_pos z, show ∀ c : gp_C, sx e c = c from fun c => if_pos z, ine0 _ (by omega), show gI a + (1 : Int32) = gI (a + 1) from gI_add _ 1]
    have elu : sp_lu vs n W = if i < 1 then gc_e 3 else if (W.2.2.1 : Int) < i then gc_e 4 else luM vs n W (i.toNat - 1) := by
      rw [z1]
      rfl
    rw [elu]
    have w16 : W.2.1 ≤ 16 ∧ 1 ≤ W.2.2.1 ∧ W.2.2.1 ≤ 16 := by
      rw [hw1, hw2]
      by_cases y : d = 0
      · rw [if_pos y, if_pos y]
        omega
      · rw [if_neg y, if_neg y]
        omega
    have b112 : (i < 1 ∨ (W.2.2.1 : Int) < i) → mF h S (f_M_lookup_b112 (some 30) (gJ i) (gv_ov h U)) (gV_1 (if i < 1 then gc_e 3 else if (W.2.2.1 : Int) < i then gc_e 4 else luM vs n W (i.toNat - 1))) := by
      intro y
      unfold f_M_lookup_b112 f_M_lookup_b125
      rw [c1, jte_ge _ _ _ _ (by omega) (by omega) (by decide) (by decide)]
      by_cases y1 : i < 1
      · rw [if_neg (show ¬ 1 ≤ i by omega), if_pos y1, gc_30, gu_idU, gI_lit 3, m_fail 0 3 hU (by decide), bl_n]
        exact mF.err (qU.trans (mX.I _ (mB_st ⟨rfl, rfl⟩))) (gu11 3) (by decide) (by decide)
      · have y2 : (W.2.2.1 : Int) < i := by omega
        rw [if_pos (show 1 ≤ i by omega), if_neg y1, if_pos y2, gc_30, gu_idU, gI_lit 4, m_fail 0 4 hU (by decide), bl_n]
        exact mF.err (qU.trans (mX.I _ (mB_st ⟨rfl, rfl⟩))) (gu11 4) (by decide) (by decide)
    have b94 : ∀ A B : Int32, A = gI W.2.1 → B = gI W.2.2.1 → mF h S (f_M_lookup_b94 (some 30) (gI d) (gI a) (gI (16 * a)) (gJ i) (gI t) A B (gv_ov h U)) (gV_1 (if i < 1 then gc_e 3 else if (W.2.2.1 : Int) < i then gc_e 4 else luM vs n W (i.toNat - 1))) := by
      rintro A B rfl rfl
      unfold f_M_lookup_b94
      rw [c1, jte_lt _ _ _ _ (by omega) (by omega) (by decide) (by decide), i2l_16 w16.2.2, jte_le _ _ _ _ (by omega) (by omega) (by omega) (by omega)]
      by_cases y1 : i < 1
      · rw [if_pos y1]
        exact b112 (Or.inl y1)
      · rw [if_neg y1]
        by_cases y2 : i ≤ (W.2.2.1 : Int)
        · obtain ⟨I, hI⟩ : ∃ I : Nat, i = ((I + 1 : Nat) : Int) := ⟨i.toNat - 1, by omega⟩
          have hI2 : I < W.2.2.1 := by omega
          rw [if_pos y2, if_neg y1, if_neg (show ¬ (W.2.2.1 : Int) < i by omega), show gI a + (1 : Int32) = gI (a + 1) from gI_add _ 1, gr_30_6, ga_34 (by omega), hm1.2.2.2.1, ine0 _ (by omega), show i.toNat - 1 = I by omega]
          have b170 : ∀ ap : Nat, (ap = if d = 0 then 1 else (vs 1).2.2.1) → mF h S (f_M_lookup_b160 (some 30) (gI d) (gI a) (gJ i) (gI t) (gI (vs 1).2.2.1) (some 30) (gI (16 * a)) ((16 : Int32) * gI (a + 1)) (gI W.2.1) (gI ap) (gv_ov h U)) (gV_1 (luM vs n W I)) := fun ap hap => mlu_160 qU hU hd hm1 (by omega) x1 x2 o4 w16.1 (fun p i hp hi => luA_in hw1 hw2 hp hi) hw hI hI2 (by omega) ht z2 hap
          by_cases y : d = 0
          · rw [if_pos y]
            exact b170 1 (by rw [if_pos y])
          · rw [if_neg y]
            exact b170 _ (by rw [if_neg y])
        · rw [if_neg y2]
          exact b112 (Or.inr (by omega))
    have b69 : ∀ A : Int32, A = gI W.2.1 → mF h S (f_M_lookup_b69 (some 30) (gI d) (gI a) (gI (16 * a)) (gJ i) (gI t) A (gv_ov h U)) (gV_1 (if i < 1 then gc_e 3 else if (W.2.2.1 : Int) < i then gc_e 4 else luM vs n W (i.toNat - 1))) := by
      intro A hA
      unfold f_M_lookup_b69
      rw [ine0 _ (by omega), show gI a + (1 : Int32) = gI (a + 1) from gI_add _ 1]
      by_cases y : d = 0
      · rw [if_pos y, gr_30_5, ga_33 (by omega), hm1.2.2.1]
        exact b94 _ _ hA (by rw [hw2, if_pos y])
      · rw [if_neg y, gr_30_6, ga_34 (by omega), hm1.2.2.2.1]
        exact b94 _ _ hA (by rw [hw2, if_neg y])
    by_cases y : d = 0
    · rw [if_pos y, gr_30_6, ga_34 (by omega), hm1.2.2.2.1]
      exact b69 _ (by rw [hw1, if_pos y])
    · rw [if_neg y, gr_30_5, ga_33 (by omega), hm1.2.2.1]
      exact b69 _ (by rw [hw1, if_neg y])
  · rw [if_neg z, show ∀ c : gp_C, sx e c = gc_e e from fun c => if_neg z]
    exact mF.err qU hU z he
theorem mo_lookup (g : mG S a vs n) (hb : S.1 30 11 = gI 0) (hn3 : 3 ≤ n) (hn4 : n ≤ 4) {d : Nat} (hd : d ≤ 1) {W : gp_V} (hw1 : W.2.1 = if d = 0 then (vs 1).2.2.1 else (vs 1).2.1) (hw2 : W.2.2.1 = if d = 0 then (vs 1).2.1 else (vs 1).2.2.1) (hw : ∀ p i, p < W.2.1 → i < W.2.2.1 → W.2.2.2 (p * W.2.2.1 + i) = (vs 1).2.2.2 (luA d (vs 1) p i)) : mF h S (f_M_lookup (some 30) (gI d) (gI a) (gI n) (gv_ov h S)) (gV_1 (sx (bl (bl (sp_err (sp_1 (vs 0))) (sW vs 2)) (oTe vs n 3)) (sp_lu vs n W))) := by
  have h16 := g.1
  have hm0 := g.2 0 (by omega)
  rw [Nat.add_zero] at hm0
  have he8 := sp_err_le (sp_1_ok hm0.1)
  obtain ⟨T, e1, e2, e3⟩ := m_wantAny (h := h) hm0 (by omega) hb (by decide)
  rw [bl_n] at e3
  have qT : mX mSt S T := e2.le fun _ _ z => mQ_st z
  obtain ⟨w1, w2, w3⟩ := g.sW (k := 2) (by omega)
  obtain ⟨T2, q1, q2, q3⟩ := m_whoW (h := h) (g.st qT) (k := 2) (by omega) e3 he8
  have qT2 : mX mSt S T2 := qT.trans (q2.le fun _ _ z => mQ_st z)
  have hle2 := bl_le he8 w1
  have b36 := mlu_36 (h := h) g hn3 hd hw1 hw2 hw
  unfold f_M_lookup
  rw [gc_30, e1, gk_ca_some, show gI a + (2 : Int32) = gI (a + 2) from gI_add _ 2, gc_30, q1, gk_ca_some, gI_lit 4, ite_lt _ _ _ _ (by omega) (by decide)]
  by_cases y4 : n < 4
  · have eo : oTe vs n 3 = 0 := if_neg (by omega)
    have eot : oT vs n 3 = true := if_neg (by omega)
    rw [if_pos y4, eo, bl_f0]
    unfold f_M_lookup_b31
    refine b36 T2 _ _ 1 qT2 q3 hle2 (by split <;> omega) (by split <;> omega) (by decide) fun z => ?_
    have z1 := bl_z.mp z
    exact ⟨z1.1, by rw [if_pos z1.1], fun y => absurd y (by decide), fun y => absurd eot y⟩
  · obtain ⟨T3, r1, r2, r3⟩ := m_wantTruth (h := h) ((g.st qT2).2 3 (by omega)) (by omega) q3 hle2
    have eo : oTe vs n 3 = (sp_tru (sp_1 (vs 3))).1 := if_pos (by omega)
    have eot : oT vs n 3 = (sp_tru (sp_1 (vs 3))).2 := if_pos (by omega)
    have qT3 : mX mSt S T3 := qT2.trans (r2.le fun _ _ z => mQ_st z)
    have hle3 := bl_le hle2 (sp_tru_le (sp_1_ok (g.ok (k := 3) (by omega))))
    rw [if_neg y4, show gI a + (3 : Int32) = gI (a + 3) from gI_add _ 3, gc_30, r1, gk_ca_some, ite_B, eo]
    have fin : ∀ t : Nat, t ≤ 1 → (bl (sp_err (sp_1 (vs 0))) (sW vs 2) = 0 → (t = 0 ↔ ¬ oT vs n 3 = true)) → mF h S (f_M_lookup_b36 (some 30) (gI d) (gI a) (gI (16 * a)) (gJ (if sp_err (sp_1 (vs 0)) = 0 then sw_x vs 2 else 0)) (gI t) (gv_ov h T3)) (gV_1 (sx (bl (bl (sp_err (sp_1 (vs 0))) (sW vs 2)) (sp_tru (sp_1 (vs 3))).1) (sp_lu vs n W))) := fun t ht inv => by
      refine b36 T3 _ _ t qT3 r3 hle3 (by split <;> omega) (by split <;> omega) ht fun z => ?_
      have z1 := bl_z.mp z
      have z2 := bl_z.mp z1.1
      exact ⟨z2.1, by rw [if_pos z2.1], inv z1.1⟩
    by_cases y : (if bl (sp_err (sp_1 (vs 0))) (sW vs 2) = 0 then (sp_tru (sp_1 (vs 3))).2 else false) = true
    · rw [if_pos y]
      unfold f_M_lookup_b31
      refine fin 1 (by decide) fun z => ⟨fun q => absurd q (by decide), fun q => ?_⟩
      rw [if_pos z, ← eot] at y
      exact absurd y q
    · rw [if_neg y]
      refine fin 0 (by decide) fun z => ⟨fun _ => ?_, fun _ => rfl⟩
      rw [if_pos z, ← eot] at y
      exact y
/-- the lookups, all -/
theorem mo_lookups (g : mG S a vs n) (hb : S.1 30 11 = gI 0) {f : Nat} (hf : 74 ≤ f) (hf2 : f ≤ 80) (hn1 : 1 ≤ n) (n76 : f = 76 ∨ f = 77 → 2 ≤ n ∧ n ≤ 3) (n78 : f = 78 ∨ f = 79 → 3 ≤ n ∧ n ≤ 4) : mF h S (f_M_lookups (some 30) (gI f) (gI a) (gI n) (gv_ov h S)) (sp_lo f vs n) := by
  have h16 := g.1
  have hm0 := g.2 0 (by omega)
  rw [Nat.add_zero] at hm0
  have idl : ∀ x : Option (Unit × gk_H), (gk_ca x fun _ h1 => f_M_lookups_b230 h1) = x := fun x => gu_idU x
  by_cases z77 : f = 77
  · subst z77
    exact mo_matchF g hb (n76 (Or.inr rfl)).1 (n76 (Or.inr rfl)).2
  unfold f_M_lookups
  rw [gI_lit 76, gI_lit 77, gI_lit 80, gI_lit 78, gI_lit 74, ite_le _ _ _ _ (by decide) (by omega), ite_eq _ _ _ _ (by omega) (by decide), ite_eq _ _ _ _ (by omega) (by decide), ite_eq _ _ _ _ (by omega) (by decide), ite_eq _ _ _ _ (by omega) (by decide), ite_eq _ _ _ _ (by omega) (by decide)]
  by_cases z76 : f = 76
  · subst z76
    rw [if_pos (by decide), if_pos rfl, gc_30, idl]
    exact mo_index g hb (n76 (Or.inl rfl)).1 (n76 (Or.inl rfl)).2
  by_cases z80 : f = 80
  · subst z80
    rw [if_pos (by decide), if_neg (by decide), if_neg (by decide), if_pos rfl, gc_30, idl]
    exact mo_transpose g hb hn1
  by_cases z78 : f = 78
  · subst z78
    obtain ⟨m3, m4⟩ := n78 (Or.inl rfl)
    rw [if_pos (by decide), if_neg (by decide), if_neg (by decide), if_neg (by decide), if_pos rfl, lo_78]
    unfold f_M_lookups_b225
    rw [gc_30, idl]
    exact mo_lookup g hb m3 m4 (d := 1) (by decide) (by rw [if_neg (by decide)]) (by rw [if_neg (by decide)]) fun p i _ _ => rfl
  by_cases z79 : f = 79
  · subst z79
    obtain ⟨m3, m4⟩ := n78 (Or.inr rfl)
    rw [if_pos (by decide), if_neg (by decide), if_neg (by decide), if_neg (by decide), if_neg (by decide), lo_79]
    unfold f_M_lookups_b225
    rw [gc_30, idl]
    refine mo_lookup g hb m3 m4 (d := 0) (by decide) (by rw [if_pos rfl]; rfl) (by rw [if_pos rfl]; rfl) fun p i _ hi => ?_
    have hi' : i < (vs 1).2.1 := hi
    obtain ⟨d1, d2⟩ := sec_div (q := p) hi'
    show (vs 1).2.2.2 ((0 + (if true = true then (p * (vs 1).2.1 + i) % (vs 1).2.1 else _)) * (vs 1).2.2.1 + (0 + (if true = true then (p * (vs 1).2.1 + i) / (vs 1).2.1 else _))) = _
    rw [if_pos rfl, if_pos rfl, d1, d2, Nat.zero_add, Nat.zero_add]
    rfl
  rw [if_neg (show ¬ 76 ≤ f by omega)]
  unfold sp_lo
  by_cases z74 : f = 74
  · rw [if_pos z74, if_pos z74, gr_30_5, ga_33 (by omega), hm0.2.2.1]
    unfold f_M_lookups_b30
    rw [gc_30, idl]
    exact mF.ansN (fd_i2df _) (mX.refl _ _) hb
  · rw [if_neg z74, if_neg z74, if_pos (show f = 75 by omega), gr_30_6, ga_34 (by omega), hm0.2.2.2.1]
    unfold f_M_lookups_b30
    rw [gc_30, idl]
    exact mF.ansN (fd_i2df _) (mX.refl _ _) hb
end MLC
