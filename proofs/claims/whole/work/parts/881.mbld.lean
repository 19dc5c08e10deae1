/-! THE PURE PART: the reference builds a text; parts of words; places in words -/
/-- slot 16 a text so far -/
def mTx (T : gv_S) (l : List Nat) : Prop := mAL T l ∧ T.1 32 16 = gI 2 ∧ T.1 33 16 = gI 1 ∧ T.1 34 16 = gI 1 ∧ T.1 35 256 = gI 2 ∧ T.2.1 36 256 = 0
/-- built so far: the text, or too long -/
def mBd (T : gv_S) (l : List Nat) : Prop := okT l ∧ if l.length ≤ 255 then T.1 30 11 = gI 0 ∧ mTx T l else T.1 30 11 = gI 3
def mAb (a b : Nat) : Prop := mAl a b ∨ mB a b
theorem mAb_st {a b : Nat} (z : mAb a b) : mSt a b := by
  unfold mAb mAl mB at z
  unfold mSt
  omega
section MBL
variable {h : gk_H} {S S0 S1 T : gv_S} {l L : List Nat} {w : Nat}
theorem mW.ab (a : mW S w l) (q : mX mAb S S1) : mW S1 w l := a.X q fun x y z => by
  unfold mAb mAl mB at z
  unfold mWd
  omega
theorem mTx.X {P : Nat → Nat → Prop} (a : mTx S l) (q : mX P S S1) (hp : ∀ x y, P x y → x < 32 ∨ 38 < x) : mTx S1 l := by
  obtain ⟨⟨a1, a2⟩, a3, a4, a5, a6, a7⟩ := a
  have n : ∀ x y, 32 ≤ x → x ≤ 38 → ¬ P x y := fun x y h1 h2 z => by
    have := hp x y z
    omega
  refine ⟨⟨?_, fun k hk => ?_⟩, ?_, ?_, ?_, ?_, ?_⟩
  · rw [q.i (n _ _ (by decide) (by decide))]; exact a1
  · rw [q.i (n _ _ (by decide) (by decide))]; exact a2 k hk
  · rw [q.i (n _ _ (by decide) (by decide))]; exact a3
  · rw [q.i (n _ _ (by decide) (by decide))]; exact a4
  · rw [q.i (n _ _ (by decide) (by decide))]; exact a5
  · rw [q.i (n _ _ (by decide) (by decide))]; exact a6
  · rw [q.d (n _ _ (by decide) (by decide))]; exact a7
theorem mTx.val (a : mTx S l) (ok : okT l) (hl : l.length ≤ 255) : mv S 16 (gV_1 (gc_t l)) := by
  obtain ⟨⟨a1, a2⟩, a3, a4, a5, a6, a7⟩ := a
  refine ⟨gp_ok1 (gp_okt hl ok), a3, a4, a5, fun j hj => ?_⟩
  have hj0 : j < 1 * 1 := hj
  have ej : j = 0 := by omega
  subst ej
  have e : md (gc_t l) = 0 := by
    unfold md
    rw [if_neg (show ¬ (gc_t l).1 = 1 by show ¬ (2 : Nat) = 1; decide)]
    exact md_0
  exact ⟨a6, a7.trans e.symm, a1, fun k hk => a2 k hk⟩
/-- the answer built -/
theorem mBd.F (a : mBd S l) (q : mX mSt S0 S) : mF h S0 (some ((), gv_ov h S)) (gV_1 (gc_txt l)) := by
  obtain ⟨ok, a2⟩ := a
  unfold gc_txt
  by_cases z : l.length ≤ 255
  · rw [if_pos z] at a2 ⊢
    exact mF.val q a2.1 (a2.2.val ok z)
  · rw [if_neg z] at a2 ⊢
    exact mF.err q a2 (by decide) (by decide)
/-- begun -/
theorem mBd.nil (hb : S.1 30 11 = gI 0) : ∃ T, f_M_setSingle (some 30) (16 : Int32) (2 : Int32) (0x0000000000000000) (gv_ov h S) = some ((), gv_ov h T) ∧ mX (mSet 16) S T ∧ mBd T [] := by
  have hok0 : gp_okC (gc_t []) := gp_okt (Nat.zero_le _) okT.nil
  obtain ⟨T, e1, e2, e3⟩ := m_setV (h := h) (S := S) 16 (by decide) hok0 rfl 0 fd_0_n (by rw [fd_c0]; exact md_0)
  obtain ⟨v0, v1, v2, v3, v4⟩ := e3
  have c0 := v4 0 (by show 0 < 1 * 1; decide)
  refine ⟨T, e1, e2, okT.nil, ?_⟩
  rw [if_pos (show ([] : List Nat).length ≤ 255 by decide)]
  exact ⟨by rw [e2.i (fun z => by unfold mSet at z; omega)]; exact hb, ⟨c0.2.2.1, fun k hk => absurd hk (Nat.not_lt_zero k)⟩, v1, v2, v3, c0.1, c0.2.1.trans md_0⟩
theorem mW.set (a : mW S w l) (q : mX (mSet 16) S S1) : mW S1 w l := a.X q fun x y z => by
  unfold mSet at z
  unfold mWd
  omega
/-- one more -/
theorem mBd.add (a : mBd S l) (c : Nat) (h1 : 32 ≤ c) (h2 : c ≤ 126) (hl : l.length ≤ 255) : ∃ T, f_M_add (some 30) (gI c) (gv_ov h S) = some ((), gv_ov h T) ∧ mX mAb S T ∧ mBd T (l ++ [c]) := by
  obtain ⟨ok, a2⟩ := a
  rw [if_pos hl] at a2
  obtain ⟨b, t1, t2⟩ := a2
  have ok2 := ok.app (okT.one h1 h2)
  by_cases z : l.length < 255
  · obtain ⟨T, e1, e2, e3⟩ := m_add (h := h) t1 c (by omega) z
    refine ⟨T, e1, e2.le fun _ _ w => Or.inl w, ok2, ?_⟩
    rw [if_pos (by rw [List.length_append, List.length_singleton]; omega)]
    have n : ∀ x y, 32 ≤ x → x ≤ 36 → ¬ mAl x y := fun x y p1 p2 z => by
      unfold mAl at z
      omega
    refine ⟨by rw [e2.i (fun w => by unfold mAl at w; omega)]; exact b, e3, ?_, ?_, ?_, ?_, ?_⟩
    · rw [e2.i (n _ _ (by decide) (by decide))]; exact t2.1
    · rw [e2.i (n _ _ (by decide) (by decide))]; exact t2.2.1
    · rw [e2.i (n _ _ (by decide) (by decide))]; exact t2.2.2.1
    · rw [e2.i (n _ _ (by decide) (by decide))]; exact t2.2.2.2.1
    · rw [e2.d (n _ _ (by decide) (by decide))]; exact t2.2.2.2.2
  · have e255 : l.length = 255 := by omega
    refine ⟨gv_uI S 30 11 (gI 3), ?_, mX.I _ (Or.inr ⟨rfl, rfl⟩), ok2, ?_⟩
    · unfold f_M_add
      rw [gr_30_9, gI_lit 256, ga_37 (by decide), t1.1, gI_lit 255, ite_eq _ _ _ _ (by omega) (by decide), if_pos e255, gc_30, gI_lit 3, m_fail 0 3 b (by decide), gk_ca_some, bl_n]
    · rw [if_neg (by rw [List.length_append, List.length_singleton]; omega)]
      exact gu11 3
/-- a part of a text -/
def pt (l : List Nat) (x y : Int) : List Nat := (l.drop x.toNat).take ((min y (l.length : Int)) - x).toNat
theorem pt_step (l : List Nat) (k : Nat) (y : Int) (h1 : (k : Int) < min y (l.length : Int)) : pt l k y = l.getD k 0 :: pt l ((k + 1 : Nat) : Int) y := by
  have hk : k < l.length := by omega
  unfold pt
  have e1 : ((k : Int)).toNat = k := rfl
  have e2 : (((k + 1 : Nat) : Int)).toNat = k + 1 := rfl
  rw [e1, e2, List.drop_eq_getElem_cons hk]
  have e3 : (min y (l.length : Int) - (k : Int)).toNat = (min y (l.length : Int) - ((k + 1 : Nat) : Int)).toNat + 1 := by omega
  rw [e3, List.take_succ_cons, List.getD_eq_getElem?_getD, List.getElem?_eq_getElem hk]
  rfl
theorem pt_end (l : List Nat) (x y : Int) (h1 : min y (l.length : Int) ≤ x) : pt l x y = [] := by
  unfold pt
  rw [show (min y (l.length : Int) - x).toNat = 0 by omega]
  rfl
theorem map_drop_ok {l : List Nat} (ok : okT l) (x y : Int) : okT (pt l x y) := ok.sub _ _
theorem i2l_255 {n : Nat} (hn : n ≤ 256) : Int32.toInt64 (gI n) = gJ (n : Int) := by
  have : ∀ k : Fin 257, Int32.toInt64 (gI k.val) = gJ (k.val : Int) := by decide +kernel
  exact this ⟨n, by omega⟩
theorem mp_30 (hw : w < 9) (ok : okT l) (y : Int) (hy1 : y ≤ l.length) (hy2 : -9007199254740992 ≤ y) : ∀ (r fu : Nat) (x : Int) (T : gv_S) (L : List Nat), 0 ≤ x → x < 36028797018963968 → (y - x).toNat ≤ r → r < fu → mW T w l → mBd T L → ∃ T', f_M_addPart_b30 fu (some 30) (gI w) (gJ y) (gJ x) (gv_ov h T) = some ((), gv_ov h T') ∧ mX mAb T T' ∧ mBd T' (L ++ pt l x y) := by
  have hmin : min y (l.length : Int) = y := by omega
  intro r
  induction r with
  | zero =>
    intro fu x T L hx0 hx1 hr hf hW hB
    obtain ⟨fu, rfl⟩ : ∃ f, fu = f + 1 := ⟨fu - 1, by omega⟩
    have hl := hW.1
    rw [f_M_addPart_b30]
    dsimp only
    unfold f_M_addPart_b72
    rw [jte_ge _ _ _ _ (by omega) (by omega) (by omega) (by omega), if_pos (by omega), pt_end l x y (by omega), List.append_nil]
    exact ⟨T, rfl, mX.refl _ _, hB⟩
  | succ r ih =>
    intro fu x T L hx0 hx1 hr hf hW hB
    obtain ⟨fu, rfl⟩ : ∃ f, fu = f + 1 := ⟨fu - 1, by omega⟩
    have hl := hW.1
    rw [f_M_addPart_b30]
    dsimp only
    unfold f_M_addPart_b72
    rw [jte_ge _ _ _ _ (by omega) (by omega) (by omega) (by omega)]
    by_cases z : y ≤ x
    · rw [if_pos z, pt_end l x y (by omega), List.append_nil]
      exact ⟨T, rfl, mX.refl _ _, hB⟩
    · obtain ⟨k, rfl⟩ : ∃ k : Nat, x = (k : Int) := ⟨x.toNat, by omega⟩
      have hk : k < l.length := by omega
      have hch := ok (l.getD k 0) (by
        rw [List.getD_eq_getElem?_getD, List.getElem?_eq_getElem hk]
        exact List.getElem_mem hk)
      rw [if_neg z, gg_30_11]
      by_cases zl : L.length ≤ 255
      · have hb : T.1 30 11 = gI 0 := by
          have := hB.2
          rw [if_pos zl] at this
          exact this.1
        obtain ⟨T1, e1, e2, e3⟩ := hB.add (h := h) (l.getD k 0) hch.1 hch.2 zl
        obtain ⟨T2, q1, q2, q3⟩ := ih fu ((k + 1 : Nat) : Int) T1 (L ++ [l.getD k 0]) (by omega) (by omega) (by omega) (by omega) (hW.ab e2) e3
        rw [hb, ite0 0 (by decide), if_pos rfl, gr_30_15, gJ_toI k (by omega), gI_lit 256, gI_mul, gI_add, ga_41 (by omega), hW.2.2.2 k hk, gc_30, e1, gk_ca_some, gk_let_eq, show gJ (k : Int) + (1 : Int64) = gJ ((k + 1 : Nat) : Int) from gJ_add _ 1, q1]
        refine ⟨T2, rfl, e2.trans q2, ?_⟩
        rw [pt_step l k y (by omega)]
        rw [List.append_assoc] at q3
        exact q3
      · have hb : T.1 30 11 = gI 3 := by
          have := hB.2
          rw [if_neg zl] at this
          exact this
        rw [hb, ite0 3 (by decide), if_neg (show ¬ (3 = 0) by decide)]
        refine ⟨T, rfl, mX.refl _ _, hB.1.app (map_drop_ok ok _ _), ?_⟩
        rw [if_neg (by rw [List.length_append]; omega)]
        exact hb
/-- a part put to the text -/
theorem m_addPart (hw : w < 9) (hW : mW T w l) (ok : okT l) (hB : mBd T L) (x y : Int) (hx0 : 0 ≤ x) (hx1 : x < 36028797018963968) (hy1 : -9007199254740992 ≤ y) (hy2 : y < 36028797018963968) : ∃ T', f_M_addPart (some 30) (gI w) (gJ x) (gJ y) (gv_ov h T) = some ((), gv_ov h T') ∧ mX mAb T T' ∧ mBd T' (L ++ pt l x y) := by
  have hl := hW.1
  unfold f_M_addPart f_M_addPart_b25
  rw [gr_30_14, ga_40 (by omega), hW.2.2.1, gr_30_14, ga_40 (by omega), hW.2.2.1, i2l_255 (by omega), jte_ge _ _ _ _ (by omega) (by omega) (by omega) (by omega)]
  by_cases z : (l.length : Int) ≤ y
  · have e : pt l x y = pt l x (l.length : Int) := by
      unfold pt
      rw [show min y (l.length : Int) = l.length by omega, show min (l.length : Int) (l.length : Int) = l.length by omega]
    rw [if_pos z, e]
    exact mp_30 (h := h) hw ok (l.length : Int) (by omega) (by omega) 255 gk_F x T L hx0 hx1 (by omega) (by unfold gk_F; omega) hW hB
  · rw [if_neg z]
    exact mp_30 (h := h) hw ok y (by omega) hy1 255 gk_F x T L hx0 hx1 (by omega) (by unfold gk_F; omega) hW hB
/-- one word's text at a place of another -/
theorem mi_27 {o : Nat} {p : List Nat} (hw : w < 9) (ho : o < 9) (hW : mW S w l) (hP : mW S o p) {t : Nat} (ht : t + p.length ≤ l.length) : ∀ (r k fu : Nat) (e : Bool), k + r = p.length → r < fu → e = decide (∀ j, j < k → l.getD (t + j) 0 = p.getD j 0) → f_M_isAt_b27 fu (some 30) (gI w) (gI t) (gI o) (gB e) (gI k) (gv_ov h S) = some (gB (decide (∀ j, j < p.length → l.getD (t + j) 0 = p.getD j 0)), gv_ov h S) := by
  have hl := hW.1
  have hpl := hP.1
  have nb : ∀ e : Bool, f_M_isAt_b87 (gB e) (gv_ov h S) = some (gB e, gv_ov h S) := fun e => by
    unfold f_M_isAt_b87
    rw [nbB]
  intro r
  induction r with
  | zero =>
    intro k fu e hk hf he
    obtain ⟨fu, rfl⟩ : ∃ f, fu = f + 1 := ⟨fu - 1, by omega⟩
    rw [f_M_isAt_b27]
    dsimp only
    rw [gr_30_14, ga_40 (by omega), hP.2.2.1, ite_le _ _ _ _ (by omega) (by omega), if_pos (by omega), nb, he, show k = p.length by omega]
  | succ r ih =>
    intro k fu e hk hf he
    obtain ⟨fu, rfl⟩ : ∃ f, fu = f + 1 := ⟨fu - 1, by omega⟩
    have c1 := hW.2.1 (l.getD (t + k) 0) (by
      rw [List.getD_eq_getElem?_getD, List.getElem?_eq_getElem (show t + k < l.length by omega)]
      exact List.getElem_mem _)
    have c2 := hP.2.1 (p.getD k 0) (by
      rw [List.getD_eq_getElem?_getD, List.getElem?_eq_getElem (show k < p.length by omega)]
      exact List.getElem_mem _)
    have o1 : (1 : Int32) = gB true := rfl
    have o0 : (0 : Int32) = gB false := rfl
    have nx : ∀ e' : Bool, e' = decide (∀ j, j < k + 1 → l.getD (t + j) 0 = p.getD j 0) → f_M_isAt_b79 (f_M_isAt_b27 fu) (some 30) (gI w) (gI t) (gI o) (gI k) (gB e') (gv_ov h S) = some (gB (decide (∀ j, j < p.length → l.getD (t + j) 0 = p.getD j 0)), gv_ov h S) := fun e' he' => by
      unfold f_M_isAt_b79
      rw [gk_let_eq, show gI k + (1 : Int32) = gI (k + 1) from gI_add _ 1]
      exact ih (k + 1) fu e' (by omega) (by omega) he'
    rw [f_M_isAt_b27]
    dsimp only
    rw [gr_30_14, ga_40 (by omega), hP.2.2.1, ite_le _ _ _ _ (by omega) (by omega), if_neg (by omega), ite_B]
    cases e
    · rw [if_neg (by decide), nb]
      have hf' := of_decide_eq_false he.symm
      rw [decide_eq_false (fun q => hf' fun j hj => q j (by omega))]
    · have ht' := of_decide_eq_true he.symm
      rw [if_pos rfl, gr_30_15, gI_lit 256, gI_mul, gI_add, gI_add, ga_41 (by omega), show 256 * w + t + k = 256 * w + (t + k) by omega, hW.2.2.2 (t + k) (by omega), gr_30_15, gI_mul, gI_add, ga_41 (by omega), hP.2.2.2 k (by omega), ite_eq _ _ _ _ (by omega) (by omega), o1, o0]
      by_cases z : l.getD (t + k) 0 = p.getD k 0
      · rw [if_pos z]
        refine nx true (decide_eq_true ?_).symm
        intro j hj
        by_cases y : j = k
        · rw [y]
          exact z
        · exact ht' j (by omega)
      · rw [if_neg z]
        exact nx false (decide_eq_false fun q => z (q k (by omega))).symm
theorem pre_iff : ∀ (p l : List Nat), p.isPrefixOf l = true ↔ p.length ≤ l.length ∧ ∀ j, j < p.length → l.getD j 0 = p.getD j 0
  | [], l => ⟨fun _ => ⟨Nat.zero_le _, fun j hj => absurd hj (Nat.not_lt_zero j)⟩, fun _ => by cases l <;> rfl⟩
  | c :: p, [] => ⟨fun z => absurd z (by simp), fun z => absurd z.1 (by simp)⟩
  | c :: p, d :: l => by
    have ih := pre_iff p l
    constructor
    · intro z
      have z' : ((c == d) && p.isPrefixOf l) = true := z
      rw [Bool.and_eq_true, ih] at z'
      obtain ⟨z1, z2, z3⟩ := z'
      refine ⟨by simp only [List.length_cons]; omega, fun j hj => ?_⟩
      cases j with
      | zero => exact (beq_iff_eq.mp z1).symm
      | succ j => exact z3 j (by simp only [List.length_cons] at hj; omega)
    · rintro ⟨z1, z2⟩
      show ((c == d) && p.isPrefixOf l) = true
      simp only [List.length_cons] at z1 z2
      rw [Bool.and_eq_true, ih, beq_iff_eq]
      exact ⟨(z2 0 (by omega)).symm, by omega, fun j hj => z2 (j + 1) (by omega)⟩
theorem getD_drop (l : List Nat) (t j : Nat) : (l.drop t).getD j 0 = l.getD (t + j) 0 := by
  rw [List.getD_eq_getElem?_getD, List.getD_eq_getElem?_getD, List.getElem?_drop]
theorem m_isAt {o : Nat} {p : List Nat} (hw : w < 9) (ho : o < 9) (hW : mW S w l) (hP : mW S o p) {t : Nat} (ht : t ≤ l.length) : f_M_isAt (some 30) (gI w) (gI t) (gI o) (gv_ov h S) = some (gB (p.isPrefixOf (l.drop t)), gv_ov h S) := by
  have hl := hW.1
  have hpl := hP.1
  unfold f_M_isAt f_M_isAt_b22
  rw [gr_30_14, ga_40 (by omega), hP.2.2.1, gr_30_14, ga_40 (by omega), hW.2.2.1, gI_add, ite_lt _ _ _ _ (by omega) (by omega)]
  have hd : (l.drop t).length = l.length - t := List.length_drop
  by_cases z : l.length < t + p.length
  · have e : p.isPrefixOf (l.drop t) = false := Bool.eq_false_iff.mpr fun q => by
      have := ((pre_iff _ _).mp q).1
      omega
    rw [if_pos z, e]
    have e1 : f_M_isAt_b27 (999999 + 1) (some 30) (gI w) (gI t) (gI o) (0 : Int32) (gI 0) (gv_ov h S) = some (gB false, gv_ov h S) := by
      rw [f_M_isAt_b27]
      dsimp only
      rw [gr_30_14, ga_40 (by omega), hP.2.2.1, if_pos (show (0 : Int32) = 0 from rfl), ite_self]
      unfold f_M_isAt_b87
      rw [nb0]
      rfl
    exact e1
  · have h27 := mi_27 (h := h) hw ho hW hP (t := t) (by omega) p.length 0 gk_F true (Nat.zero_add _) (by unfold gk_F; omega) (decide_eq_true fun j hj => absurd hj (Nat.not_lt_zero j)).symm
    have h27' : f_M_isAt_b27 gk_F (some 30) (gI w) (gI t) (gI o) (1 : Int32) (0 : Int32) (gv_ov h S) = _ := h27
    have e : p.isPrefixOf (l.drop t) = decide (∀ j, j < p.length → l.getD (t + j) 0 = p.getD j 0) := by
      rw [Bool.eq_iff_iff, pre_iff, decide_eq_true_iff]
      constructor
      · intro q j hj
        rw [← getD_drop]
        exact q.2 j hj
      · intro q
        refine ⟨by omega, fun j hj => ?_⟩
        rw [getD_drop]
        exact q j hj
    rw [if_neg z, h27', e]
end MBL
