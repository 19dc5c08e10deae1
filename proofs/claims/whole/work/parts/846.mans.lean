/-! THE PURE PART: the reference's answers and its stack -/
def mSet (v a b : Nat) : Prop := (32 ≤ a ∧ a ≤ 34 ∧ b = v) ∨ (35 ≤ a ∧ a ≤ 37 ∧ b = 16 * v)
def mVl (t a b : Nat) : Prop := (32 ≤ a ∧ a ≤ 34 ∧ b = t) ∨ (35 ≤ a ∧ a ≤ 37 ∧ 16 * t ≤ b ∧ b < 16 * t + 16) ∨ (a = 38 ∧ 4096 * t ≤ b ∧ b < 4096 * t + 4096)
def mS (S : gv_S) (L : List gp_V) : Prop := L.length ≤ 16 ∧ S.1 30 3 = gI L.length ∧ ∀ m, m < L.length → mv S m (L.getD m gV_d)
def mFr (S S' : gv_S) : Prop := S'.2.2 = S.2.2 ∧ ∀ a b, (a < 30 ∨ 41 < a) → S'.1 a b = S.1 a b ∧ S'.2.1 a b = S.2.1 a b
/-- what the function's answer is: error e, or slot 16 -/
def mA (e : Nat) (V : gp_V) (S S' : gv_S) : Prop := S'.1 30 11 = gI e ∧ (e = 0 → mv S' 16 V) ∧ mX mSt S S'
section MAN
variable {h : gk_H} {S : gv_S} {L : List gp_V} {f : Nat} {V : gp_V}
theorem mSet_vl {v a b : Nat} (z : mSet v a b) : mVl v a b := by
  unfold mSet at z
  unfold mVl
  omega
theorem mSet_st {a b : Nat} (z : mSet 16 a b) : mSt a b := by
  unfold mSet at z
  unfold mSt
  omega
theorem m_setV (v : Nat) (hv : v ≤ 16) {c : gp_C} (hc : gp_okC c) (h2 : c.2.2.2 = []) (x : UInt64) (hx : fd_n x) (hmd : md c = fd_c x) : ∃ S', f_M_setSingle (some 30) (gI v) (gI c.1) x (gv_ov h S) = some ((), gv_ov h S') ∧ mX (mSet v) S S' ∧ mv S' v (gV_1 c) := by
  refine ⟨_, m_set v c.1 x hv hx, ?_, ?_⟩
  · exact ((((((mX.I _ (Or.inl ⟨by decide, by decide, rfl⟩)).trans (mX.I _ (Or.inl ⟨by decide, by decide, rfl⟩))).trans (mX.I _ (Or.inl ⟨by decide, by decide, rfl⟩))).trans (mX.I _ (Or.inr ⟨by decide, by decide, rfl⟩))).trans (mX.D _ (Or.inr ⟨by decide, by decide, rfl⟩))).trans (mX.I _ (Or.inr ⟨by decide, by decide, rfl⟩)))
  · refine ⟨gp_ok1 hc, ?_, ?_, ?_, fun j hj => ?_⟩
    · simp (disch := (first | omega | assumption | exact fd_0_n | exact fd_53_n | exact fd_m53_n)) only [gu_I1, gu_I2, gu_I3, gu_I4, gu_D1, gu_D2, gu_D3, gu_D4]
      rfl
    · simp (disch := (first | omega | assumption | exact fd_0_n | exact fd_53_n | exact fd_m53_n)) only [gu_I1, gu_I2, gu_I3, gu_I4, gu_D1, gu_D2, gu_D3, gu_D4]
      rfl
    · simp (disch := (first | omega | assumption | exact fd_0_n | exact fd_53_n | exact fd_m53_n)) only [gu_I1, gu_I2, gu_I3, gu_I4, gu_D1, gu_D2, gu_D3, gu_D4]
      rfl
    · have hj0 : j < 1 * 1 := hj
      have e : j = 0 := by omega
      subst e
      show mc _ (16 * v + 0) c
      rw [Nat.add_zero]
      refine ⟨?_, ?_, ?_, fun k hk => absurd hk (by rw [h2]; exact Nat.not_lt_zero k)⟩
      · simp (disch := (first | omega | assumption | exact fd_0_n | exact fd_53_n | exact fd_m53_n)) only [gu_I1, gu_I2, gu_I3, gu_I4, gu_D1, gu_D2, gu_D3, gu_D4]
      · simp (disch := (first | omega | assumption | exact fd_0_n | exact fd_53_n | exact fd_m53_n)) only [gu_I1, gu_I2, gu_I3, gu_I4, gu_D1, gu_D2, gu_D3, gu_D4]
        exact hmd.symm
      · simp (disch := (first | omega | assumption | exact fd_0_n | exact fd_53_n | exact fd_m53_n)) only [gu_I1, gu_I2, gu_I3, gu_I4, gu_D1, gu_D2, gu_D3, gu_D4]
        rw [h2]
        rfl
theorem md_gcn {x : UInt64} : md (gc_n x) = fd_c x := rfl
theorem md_gcb (t : Bool) : md (gc_b t) = (if t = true then 0x3ff0000000000000 else 0) := by
  cases t <;> decide +kernel
theorem md_gce (e : Nat) : md (gc_e e) = FP.i2d (gI e) := rfl
theorem fd_c1 : fd_c 0x3ff0000000000000 = 0x3ff0000000000000 := by decide +kernel
theorem fd_c0 : fd_c 0 = 0 := by decide +kernel
theorem m_ansN {x : UInt64} (hx : fd_f x) (hb : S.1 30 11 = gI f) : ∃ S', f_M_answerNumber (some 30) x (gv_ov h S) = some ((), gv_ov h S') ∧ mX (mSet 16) S S' ∧ mv S' 16 (gV_1 (gc_n x)) ∧ S'.1 30 11 = gI f := by
  obtain ⟨S', e1, e2, e3⟩ := m_setV (h := h) (S := S) 16 (by decide) (gp_okn hx) rfl x hx.n rfl
  have e1' : f_M_setSingle (some 30) (16 : Int32) (1 : Int32) x (gv_ov h S) = some ((), gv_ov h S') := e1
  unfold f_M_answerNumber
  rw [gc_30, e1', gk_ca_some]
  exact ⟨S', rfl, e2, e3, by rw [e2.i (fun z => by unfold mSet at z; omega)]; exact hb⟩
/-- where the answer is an error anyhow, any number will do -/
theorem m_ansX {x : UInt64} (hx : fd_n x) (hb : S.1 30 11 = gI f) : ∃ S', f_M_answerNumber (some 30) x (gv_ov h S) = some ((), gv_ov h S') ∧ mX (mSet 16) S S' ∧ S'.1 30 11 = gI f := by
  have e1 := m_set (h := h) (S := S) 16 1 x (by decide) hx
  have e1' : f_M_setSingle (some 30) (16 : Int32) (1 : Int32) x (gv_ov h S) = _ := e1
  unfold f_M_answerNumber
  rw [gc_30, e1', gk_ca_some]
  refine ⟨_, rfl, ?_, ?_⟩
  · exact ((((((mX.I _ (Or.inl ⟨by decide, by decide, rfl⟩)).trans (mX.I _ (Or.inl ⟨by decide, by decide, rfl⟩))).trans (mX.I _ (Or.inl ⟨by decide, by decide, rfl⟩))).trans (mX.I _ (Or.inr ⟨by decide, by decide, rfl⟩))).trans (mX.D _ (Or.inr ⟨by decide, by decide, rfl⟩))).trans (mX.I _ (Or.inr ⟨by decide, by decide, rfl⟩)))
  · simp (disch := (first | omega | assumption | exact fd_0_n | exact fd_53_n | exact fd_m53_n)) only [gu_I1, gu_I2, gu_I3, gu_I4, gu_D1, gu_D2, gu_D3, gu_D4]
    exact hb
theorem m_ansT (t : Bool) (hb : S.1 30 11 = gI f) : ∃ S', f_M_answerTruth (some 30) (gB t) (gv_ov h S) = some ((), gv_ov h S') ∧ mX (mSet 16) S S' ∧ mv S' 16 (gV_1 (gc_b t)) ∧ S'.1 30 11 = gI f := by
  have hfr : ∀ S', mX (mSet 16) S S' → S'.1 30 11 = gI f := fun S' e2 => by
    rw [e2.i (fun z => by unfold mSet at z; omega)]
    exact hb
  unfold f_M_answerTruth f_M_answerTruth_b13
  rw [ite_B]
  cases t
  · obtain ⟨S', e1, e2, e3⟩ := m_setV (h := h) (S := S) 16 (by decide) (gp_okb false) rfl 0 fd_0_n (by rw [md_gcb, fd_c0]; rfl)
    have e1' : f_M_setSingle (some 30) (16 : Int32) (3 : Int32) 0 (gv_ov h S) = some ((), gv_ov h S') := e1
    rw [if_neg (by decide), gc_30, e1', gk_ca_some]
    exact ⟨S', rfl, e2, e3, hfr S' e2⟩
  · obtain ⟨S', e1, e2, e3⟩ := m_setV (h := h) (S := S) 16 (by decide) (gp_okb true) rfl 0x3ff0000000000000 fd_1_f.n (by rw [md_gcb, fd_c1]; rfl)
    have e1' : f_M_setSingle (some 30) (16 : Int32) (3 : Int32) 0x3ff0000000000000 (gv_ov h S) = some ((), gv_ov h S') := e1
    rw [if_pos rfl, gc_30, e1', gk_ca_some]
    exact ⟨S', rfl, e2, e3, hfr S' e2⟩
theorem m_endless {x : UInt64} (hx : fd_n x) (h : gk_H) : f_M_isEndless x h = some (gB (!decide (fin x)), h) := by
  unfold f_M_isEndless f_M_isEndless_b16 f_M_isEndless_b21
  rw [fi_gt _ _ hx fd_max_n, fi_ge _ _ hx fd_min_n, fd_max_k, fd_min_k, nb0, nb1]
  by_cases z1 : 9218868437227405311 < fd_k x
  · rw [if_pos z1, decide_eq_false (show ¬ fin x by unfold fin; omega)]
    rfl
  · rw [if_neg z1]
    by_cases z2 : -9218868437227405311 ≤ fd_k x
    · rw [if_pos z2, decide_eq_true (show fin x by unfold fin; omega)]
      rfl
    · rw [if_neg z2, decide_eq_false (show ¬ fin x by unfold fin; omega)]
      rfl
/-- a step: what isn't finite is the error NUMBER -/
theorem m_step {x : UInt64} (hx : fd_n x) (hb : S.1 30 11 = gI f) (hf : f ≤ 8) : ∃ S', f_M_step (some 30) x (gv_ov h S) = some (if fin x then x else 0, gv_ov h S') ∧ mX mB S S' ∧ S'.1 30 11 = gI (bl f (if fin x then 0 else 6)) := by
  unfold f_M_step
  rw [m_endless hx, gk_ca_some, ite_B]
  by_cases z : fin x
  · rw [decide_eq_true z, if_neg (by decide), if_pos z, if_pos z, bl_0]
    exact ⟨S, rfl, mX.refl _ _, hb⟩
  · rw [decide_eq_false z, if_pos (by decide), if_neg z, if_neg z, gc_30, gI_lit 6, m_fail f 6 hb hf, gk_ca_some]
    exact ⟨_, rfl, mX.I _ ⟨rfl, rfl⟩, gu_I2 _ _ _ _⟩
theorem mVl_cl {t k a b : Nat} (hk : k < 16) (z : mCl (16 * t + k) a b) : mVl t a b := by
  unfold mCl at z
  unfold mVl
  omega
theorem m_copyV {v t : Nat} (hm : mv S v V) (hv : v ≤ 16) (ht : t ≤ 16) (hvt : v ≠ t) : ∃ S', f_M_copyValue (some 30) (gI v) (gI t) (gv_ov h S) = some ((), gv_ov h S') ∧ mX (mVl t) S S' ∧ mv S' t V := by
  have h16 := hm.1.2.2.1
  have loop : ∀ (r k fu : Nat) (S : gv_S), mv S v V → k + r = V.2.1 * V.2.2.1 → r < fu → (∀ j, j < k → mc S (16 * t + j) (V.2.2.2 j)) → ∃ S', f_M_copyValue_b44 fu (some 30) (gI v) (gI t) (gI k) (gv_ov h S) = some ((), gv_ov h S') ∧ mX (fun a b => mVl t a b ∧ 35 ≤ a) S S' ∧ ∀ j, j < V.2.1 * V.2.2.1 → mc S' (16 * t + j) (V.2.2.2 j) := by
    intro r
    induction r with
    | zero =>
      intro k fu S hm hk hf hc
      obtain ⟨fu, rfl⟩ : ∃ f, fu = f + 1 := ⟨fu - 1, by omega⟩
      rw [f_M_copyValue_b44]
      dsimp only
      rw [gr_30_5, ga_33 (by omega), gr_30_6, ga_34 (by omega), hm.2.2.1, hm.2.2.2.1, gI_mul, ite_le _ _ _ _ (by omega) (by omega), if_pos (by omega)]
      exact ⟨S, rfl, mX.refl _ _, fun j hj => hc j (by omega)⟩
    | succ r ih =>
      intro k fu S hm hk hf hc
      obtain ⟨fu, rfl⟩ : ∃ f, fu = f + 1 := ⟨fu - 1, by omega⟩
      have hok := hm.1.2.2.2.1
      obtain ⟨S', e1, e2, e3⟩ := m_copyCell (h := h) (hok k (by omega)) (hm.2.2.2.2 k (by omega)) (show 16 * v + k < 272 by omega) (show 16 * t + k < 272 by omega) (by omega)
      have e2' : mX (mVl t) S S' := e2.le fun x y z => mVl_cl (by omega) z
      have hm' : mv S' v V := hm.X e2' fun x y z => by
        unfold mVl at z
        omega
      have hc' : ∀ j, j < k + 1 → mc S' (16 * t + j) (V.2.2.2 j) := fun j hj => by
        by_cases z : j = k
        · rw [z]
          exact e3
        · exact (hc j (by omega)).X e2 (hok j (by omega)).2.2.2.2.2.2.2.2.1 fun x y z => by
            unfold mCl at z
            omega
      obtain ⟨S2, q1, q2, q3⟩ := ih (k + 1) fu S' hm' (by omega) (by omega) hc'
      rw [f_M_copyValue_b44]
      dsimp only
      rw [gr_30_5, ga_33 (by omega), gr_30_6, ga_34 (by omega), hm.2.2.1, hm.2.2.2.1, gI_mul, ite_le _ _ _ _ (by omega) (by omega), if_neg (by omega), gc_30, gI_lit 16, gI_mul, gI_mul, gI_add, gI_add, e1, gk_ca_some, gk_let_eq, show gI k + (1 : Int32) = gI (k + 1) from gI_add k 1]
      exact ⟨S2, q1, (e2.le fun x y z => ⟨mVl_cl (by omega) z, by unfold mCl at z; omega⟩).trans q2, q3⟩
  have hp : mX (fun a b => 32 ≤ a ∧ a ≤ 34 ∧ b = t) S (gv_uI (gv_uI (gv_uI S 32 t (gI V.1)) 33 t (gI V.2.1)) 34 t (gI V.2.2.1)) := ((mX.I _ ⟨by decide, by decide, rfl⟩).trans (mX.I _ ⟨by decide, by decide, rfl⟩)).trans (mX.I _ ⟨by decide, by decide, rfl⟩)
  have hm0 : mv (gv_uI (gv_uI (gv_uI S 32 t (gI V.1)) 33 t (gI V.2.1)) 34 t (gI V.2.2.1)) v V := hm.X hp fun x y z => by omega
  obtain ⟨S', e1, e2, e3⟩ := loop _ 0 gk_F _ hm0 (Nat.zero_add _) (by unfold gk_F; omega) (fun j hj => absurd hj (Nat.not_lt_zero j))
  refine ⟨S', ?_, ?_, hm.1, ?_, ?_, ?_, e3⟩
  · unfold f_M_copyValue
    rw [ite_eq _ _ _ _ (by omega) (by omega), if_neg hvt, gr_30_4, gr_30_4, ga_32 (by omega), gt_32 (by omega), gr_30_5, gr_30_5, ga_33 (by omega), gt_33 (by omega), gr_30_6, gr_30_6, ga_34 (by omega), gt_34 (by omega)]
    rw [gu_I1 _ _ _ _ _ _ (show ¬ (33 = 32 ∧ v = t) by omega), gu_I1 _ _ _ _ _ _ (show ¬ (34 = 33 ∧ v = t) by omega), gu_I1 _ _ _ _ _ _ (show ¬ (34 = 32 ∧ v = t) by omega), hm.2.1, hm.2.2.1, hm.2.2.2.1]
    exact e1
  · exact (hp.le fun x y z => Or.inl z).trans (e2.le fun x y z => z.1)
  · rw [e2.i (by omega)]
    simp (disch := (first | omega | assumption | exact fd_0_n | exact fd_53_n | exact fd_m53_n)) only [gu_I1, gu_I2, gu_I3, gu_I4, gu_D1, gu_D2, gu_D3, gu_D4]
  · rw [e2.i (by omega)]
    simp (disch := (first | omega | assumption | exact fd_0_n | exact fd_53_n | exact fd_m53_n)) only [gu_I1, gu_I2, gu_I3, gu_I4, gu_D1, gu_D2, gu_D3, gu_D4]
  · rw [e2.i (by omega)]
    simp (disch := (first | omega | assumption | exact fd_0_n | exact fd_53_n | exact fd_m53_n)) only [gu_I1, gu_I2, gu_I3, gu_I4, gu_D1, gu_D2, gu_D3, gu_D4]
/-- the stack stands where nothing of it is written -/
theorem mS.X {P : Nat → Nat → Prop} {S' : gv_S} (a : mS S L) (q : mX P S S') (hp : ∀ x y, P x y → ¬ (x = 30 ∧ y = 3) ∧ ∀ m, m < L.length → ¬ mVl m x y) : mS S' L := by
  obtain ⟨a1, a2, a3⟩ := a
  refine ⟨a1, by rw [q.i (fun z => (hp _ _ z).1 ⟨rfl, rfl⟩)]; exact a2, fun m hm => (a3 m hm).X q fun x y z => ?_⟩
  have := (hp x y z).2 m hm
  unfold mVl at this
  omega
theorem mS.st {S' : gv_S} (a : mS S L) (q : mX mSt S S') : mS S' L := a.X q fun x y z => by
  have := a.1
  unfold mSt at z
  refine ⟨by omega, fun m hm w => ?_⟩
  unfold mVl at w
  omega
theorem mS.push {S' : gv_S} {n : Nat} (a : mS S L) (hn : n ≤ L.length) (hr : n < 16) (q : mX (mVl n) S S') (hv : mv S' n V) : mS (gv_uI S' 30 3 (gI (n + 1))) (L.take n ++ [V]) := by
  obtain ⟨a1, a2, a3⟩ := a
  have el : (L.take n).length = n := by
    rw [List.length_take]
    omega
  have q3 : mX (fun a b => a = 30 ∧ b = 3) S' (gv_uI S' 30 3 (gI (n + 1))) := mX.I _ ⟨rfl, rfl⟩
  have keep : ∀ (m : Nat) (W : gp_V), mv S' m W → mv (gv_uI S' 30 3 (gI (n + 1))) m W := fun m W w => w.X q3 fun x y z => by omega
  refine ⟨?_, ?_, fun m hm => keep _ _ ?_⟩
  · rw [List.length_append, List.length_singleton, el]
    omega
  · rw [List.length_append, List.length_singleton, el]
    exact gu_I2 _ _ _ _
  · rw [List.length_append, List.length_singleton, el] at hm
    by_cases z : m = n
    · rw [z, List.getD_eq_getElem?_getD, List.getElem?_append_right (by omega), el, Nat.sub_self]
      exact hv
    · rw [List.getD_eq_getElem?_getD, List.getElem?_append_left (by omega), List.getElem?_take, if_pos (by omega), ← List.getD_eq_getElem?_getD]
      exact (a3 m (by omega)).X q fun x y w => by
        unfold mVl at w
        omega
/-- the call's end -/
theorem m_finish {e n : Nat} {S0 : gv_S} (hS : mS S0 L) (hA : mA e V S0 S) (he : e ≤ 8) (hn : n ≤ L.length) (hr : L.length - n < 16) : ∃ S', f_M_finish (some 30) (gI n) (gv_ov h S) = some ((), gv_ov h S') ∧ mS S' (L.take (L.length - n) ++ [sxV e V]) ∧ S'.1 30 0 = S.1 30 0 ∧ S'.1 30 1 = S.1 30 1 ∧ (∀ k, S'.1 31 k = S.1 31 k) ∧ mFr S S' := by
  obtain ⟨a1, a2, a3⟩ := hA
  have hS1 := hS.st a3
  have zb : ∀ {β : Type} (x y : β), (if gI e ≤ (0 : Int32) then x else y) = if e ≤ 0 then x else y := fun x y => ite_le x y e 0 (by omega) (by decide)
  have core : ∀ T : gv_S, mS T L → mv T 16 (sxV e V) → mX (mSet 16) S T → ∃ S', f_M_finish_b19 (some 30) (gI n) (gv_ov h T) = some ((), gv_ov h S') ∧ mS S' (L.take (L.length - n) ++ [sxV e V]) ∧ S'.1 30 0 = S.1 30 0 ∧ S'.1 30 1 = S.1 30 1 ∧ (∀ k, S'.1 31 k = S.1 31 k) ∧ mFr S S' := by
    intro T hT hv hX
    have q3 : mX (fun a b => a = 30 ∧ b = 3) T (gv_uI T 30 3 (gI (L.length - n))) := mX.I _ ⟨rfl, rfl⟩
    have hv3 : mv (gv_uI T 30 3 (gI (L.length - n))) 16 (sxV e V) := hv.X q3 fun x y z => by omega
    obtain ⟨T2, e1, e2, e3⟩ := m_copyV (h := h) hv3 (Nat.le_refl _) (show L.length - n ≤ 16 by omega) (by omega)
    have hT3 : mS (gv_uI T 30 3 (gI L.length)) L := by
      rw [← hT.2.1, gu_s]
      exact hT
    -- the stack before the size went down
    have hTb : mX (mVl (L.length - n)) (gv_uI T 30 3 (gI (L.length - n))) T2 := e2
    have hpush : mS (gv_uI T2 30 3 (gI (L.length - n + 1))) (L.take (L.length - n) ++ [sxV e V]) := by
      have el : (L.take (L.length - n)).length = L.length - n := by
        rw [List.length_take]
        omega
      have hlow : mS (gv_uI T 30 3 (gI (L.length - n))) (L.take (L.length - n)) := by
        refine ⟨by omega, by rw [el]; exact gu_I2 _ _ _ _, fun m hm => ?_⟩
        rw [el] at hm
        rw [List.getD_eq_getElem?_getD, List.getElem?_take, if_pos hm, ← List.getD_eq_getElem?_getD]
        exact (hT.2.2 m (by omega)).X q3 fun x y z => by omega
      have := mS.push (n := L.length - n) hlow (by omega) (by omega) hTb e3
      rw [List.take_take, Nat.min_self] at this
      exact this
    unfold f_M_finish_b19
    have e0 : T2.1 30 3 = gI (L.length - n) := by
      rw [e2.i (fun z => by unfold mVl at z; omega)]
      exact gu_I2 _ _ _ _
    refine ⟨gv_uI T2 30 3 (gI (L.length - n + 1)), ?_, hpush, ?_, ?_, fun k => ?_, ?_, fun a b hab => ⟨?_, ?_⟩⟩
    · rw [gg_30_3, hT.2.1, gI_sub _ _ hn, gs_30_3, gg_30_3, show (gv_uI T 30 3 (gI (L.length - n))).1 30 3 = gI (L.length - n) from gu_I2 _ _ _ _, gc_30, gI_lit 16, e1, gk_ca_some, gg_30_3, e0, show gI (L.length - n) + (1 : Int32) = gI (L.length - n + 1) from gI_add _ 1, gs_30_3]
    · rw [gu_I1 _ _ _ _ _ _ (by omega), e2.i (fun z => by unfold mVl at z; omega), gu_I1 _ _ _ _ _ _ (by omega), hX.i (fun z => by unfold mSet at z; omega)]
    · rw [gu_I1 _ _ _ _ _ _ (by omega), e2.i (fun z => by unfold mVl at z; omega), gu_I1 _ _ _ _ _ _ (by omega), hX.i (fun z => by unfold mSet at z; omega)]
    · rw [gu_I1 _ _ _ _ _ _ (by omega), e2.i (fun z => by unfold mVl at z; omega), gu_I1 _ _ _ _ _ _ (by omega), hX.i (fun z => by unfold mSet at z; omega)]
    · show T2.2.2 = S.2.2
      rw [e2.2]
      exact hX.2
    · rw [gu_I1 _ _ _ _ _ _ (by omega), e2.i (fun z => by unfold mVl at z; omega), gu_I1 _ _ _ _ _ _ (by omega), hX.i (fun z => by unfold mSet at z; omega)]
    · show T2.2.1 a b = S.2.1 a b
      rw [e2.d (fun z => by unfold mVl at z; omega)]
      exact hX.d (fun z => by unfold mSet at z; omega)
  unfold f_M_finish
  rw [gg_30_11, a1, zb]
  by_cases z : e ≤ 0
  · have e0 : e = 0 := by omega
    subst e0
    rw [if_pos z]
    exact core S hS1 (a2 rfl) (mX.refl _ _)
  · have hfd : fd_f (FP.i2d (gI e)) := fd_i2df _
    have hne : fd_k (FP.i2d (gI e)) ≠ 0 := (fd_i2nz (by omega) (by omega)).2
    obtain ⟨T, t1, t2, t3⟩ := m_setV (h := h) (S := S) 16 (Nat.le_refl _) (gp_oke (e := e) (by omega) he) rfl (FP.i2d (gI e)) hfd.n (by rw [md_gce]; unfold fd_c; rw [if_neg hne])
    have t1' : f_M_setSingle (some 30) (16 : Int32) (4 : Int32) (FP.i2d (gI e)) (gv_ov h S) = some ((), gv_ov h T) := t1
    rw [if_neg z, gg_30_11, a1, gc_30, t1', gk_ca_some]
    refine core T (hS1.st (t2.le fun x y w => mSet_st w)) ?_ t2
    unfold sxV
    rw [if_neg (by omega)]
    exact t3
end MAN
