/-! THE PURE PART: the reference's functions: what they are held against; floors -/
theorem mo_floor {x : UInt64} (hx : fd_n x) (h : gk_H) : f_M_floor x h = some (s_fl x, h) := by
  unfold f_M_floor f_M_floor_b16 f_M_floor_b37 s_fl
  rw [fi_ge _ _ hx fd_53_n, fi_gt _ _ hx fd_m53_n, fd_53_k, fd_m53_k]
  by_cases z1 : 4845873199050653696 ≤ fd_k x
  · rw [if_pos z1, if_neg (show ¬ (-4845873199050653696 < fd_k x ∧ fd_k x < 4845873199050653696) by omega)]
  · rw [if_neg z1]
    by_cases z2 : -4845873199050653696 < fd_k x
    · have hb : -4845873199050653696 < fd_k x ∧ fd_k x < 4845873199050653696 := ⟨z2, by omega⟩
      rw [if_pos z2, if_pos hb, gk_let_eq, fd_d2lT hx hb, fi_le _ _ (fd_l2df _).n hx, fd_fl_T]
      have ht := (fd_Tk hx hb).1
      by_cases z3 : fd_v x < fd_T x * fd_P
      · have := ht.mpr z3
        rw [if_neg (show ¬ fd_k (FP.l2d (gJ (fd_T x))) ≤ fd_k x by omega), if_pos z3, show gJ (fd_T x) - (1 : Int64) = gJ (fd_T x - 1) from gJ_sub _ 1]
      · have : ¬ fd_k x < fd_k (FP.l2d (gJ (fd_T x))) := fun w => z3 (ht.mp w)
        rw [if_pos (show fd_k (FP.l2d (gJ (fd_T x))) ≤ fd_k x by omega), if_neg z3]
    · rw [if_neg z2, if_neg (show ¬ (-4845873199050653696 < fd_k x ∧ fd_k x < 4845873199050653696) by omega)]
theorem fd_negneg {x : UInt64} (hx : fd_n x) (z : fd_k x ≠ 0) : FP.dsub 0 (FP.dsub 0 x) = x := by
  have h1 := fd_neg hx
  have h2 := fd_neg h1.1
  have e : fd_k (FP.dsub 0 (FP.dsub 0 x)) = fd_k x := by
    rw [h2.2.1, h1.2.1]
    omega
  exact fd_k_inj e (by rw [e]; exact z)
theorem s_fl_n {x : UInt64} (hx : fd_n x) : fd_n (s_fl x) := by
  unfold s_fl
  split
  · exact (fd_l2df _).n
  · exact hx
theorem mo_ceiling {x : UInt64} (hx : fd_n x) (h : gk_H) : f_M_ceiling x h = some (s_ce x, h) := by
  have h1 := fd_neg hx
  have h3 := fd_neg (s_fl_n h1.1)
  unfold f_M_ceiling
  rw [fd_dop h1.1, mo_floor h1.1, gk_ca_some, fd_dop h3.1]
  congr 2
  by_cases z : -4845873199050653696 < fd_k x ∧ fd_k x < 4845873199050653696
  · have z' : -4845873199050653696 < fd_k (FP.dsub 0 x) ∧ fd_k (FP.dsub 0 x) < 4845873199050653696 := by
      rw [h1.2.1]
      omega
    have hb := fd_fl_b h1.1 z'
    unfold s_fl s_ce
    rw [if_pos z, if_pos z', fd_sub0l (by omega) (by omega)]
    unfold fd_fl fd_ce
    rw [fd_neg_v hx]
  · have z' : ¬ (-4845873199050653696 < fd_k (FP.dsub 0 x) ∧ fd_k (FP.dsub 0 x) < 4845873199050653696) := by
      rw [h1.2.1]
      omega
    unfold s_fl s_ce
    rw [if_neg z, if_neg z', fd_negneg hx (by omega)]
/-- arguments at the slots from a on -/
def mG (S : gv_S) (a : Nat) (vs : Nat → gp_V) (n : Nat) : Prop := a + n ≤ 16 ∧ ∀ m, m < n → mv S (a + m) (vs m)
/-- a function's answer -/
def mF (h : gk_H) (S : gv_S) (x : Option (Unit × gk_H)) (V : gp_V) : Prop := ∃ S' e W, x = some ((), gv_ov h S') ∧ mA e W S S' ∧ e ≤ 8 ∧ sxV e W = V
/-- a number reckoned -/
def mNv (h : gk_H) (S : gv_S) (x : Option (UInt64 × gk_H)) (c : gp_C) : Prop := ∃ S' vl, x = some (vl, gv_ov h S') ∧ mX mB S S' ∧ mV c vl S'
theorem gu_idU (x : Option (Unit × gk_H)) : (gk_ca x fun _ h1 => some ((), h1)) = x := by
  cases x <;> rfl
section MFU
variable {h : gk_H} {S S0 S1 : gv_S} {x : Option (Unit × gk_H)} {V : gp_V} {a n e f : Nat} {vs : Nat → gp_V} {c : gp_C} {vl : UInt64}
theorem mG.st (g : mG S a vs n) (q : mX mSt S S1) : mG S1 a vs n := ⟨g.1, fun m hm => (g.2 m hm).st q (by have := g.1; omega)⟩
theorem mG.ok (g : mG S a vs n) {k : Nat} (hk : k < n) : gp_okV (vs k) := (g.2 k hk).1
theorem mG.sN (g : mG S a vs n) {k : Nat} (hk : k < n) : fd_f (sN vs k).2 ∧ fd_c (sN vs k).2 = (sN vs k).2 ∧ (sN vs k).1 ≤ 8 := by
  have hok := sp_1_ok (g.ok hk)
  exact ⟨(sp_num_f hok).1, (sp_num_f hok).2, sp_num_le hok⟩
theorem mG.sW (g : mG S a vs n) {k : Nat} (hk : k < n) : sW vs k ≤ 8 ∧ -9007199254740992 < sw_x vs k ∧ sw_x vs k < 9007199254740992 := by
  have hok := sp_1_ok (g.ok hk)
  obtain ⟨x1, x2, -⟩ := sw_x_b (g.ok hk)
  exact ⟨sp_who_le hok, x1, x2⟩
theorem mF.pre (q : mX mSt S0 S) (r : mF h S x V) : mF h S0 x V := by
  obtain ⟨S', e, W, r1, ⟨r2, r3, r4⟩, r5, r6⟩ := r
  exact ⟨S', e, W, r1, ⟨r2, r3, q.trans r4⟩, r5, r6⟩
theorem mF.err (q : mX mSt S0 S) (hb : S.1 30 11 = gI e) (h1 : e ≠ 0) (h8 : e ≤ 8) : mF h S0 (some ((), gv_ov h S)) (gV_1 (gc_e e)) :=
  ⟨S, e, gV_d, rfl, ⟨hb, fun z => absurd z h1, q⟩, h8, if_neg h1⟩
theorem mF.val (q : mX mSt S0 S) (hb : S.1 30 11 = gI 0) (hv : mv S 16 V) : mF h S0 (some ((), gv_ov h S)) V :=
  ⟨S, 0, V, rfl, ⟨hb, fun _ => hv, q⟩, by decide, rfl⟩
theorem mF.ans (r : mV c vl S) (q : mX mSt S0 S) (hc : isR c) : mF h S0 (f_M_answerNumber (some 30) vl (gv_ov h S)) (gV_1 c) := by
  obtain ⟨hle, hsx⟩ := hc.le
  obtain ⟨S', e1, e2⟩ := r.ans (h := h) q hle
  exact ⟨S', _, _, e1, e2, hle, hsx⟩
theorem mF.ansE (hx : fd_n vl) (q : mX mSt S0 S) (hb : S.1 30 11 = gI e) (h1 : e ≠ 0) (h8 : e ≤ 8) : mF h S0 (f_M_answerNumber (some 30) vl (gv_ov h S)) (gV_1 (gc_e e)) := by
  obtain ⟨S', e1, e2, e3⟩ := m_ansX (h := h) hx hb
  rw [e1]
  exact mF.err (q.trans (e2.le fun _ _ w => mSet_st w)) e3 h1 h8
theorem mF.ansN (hx : fd_f vl) (q : mX mSt S0 S) (hb : S.1 30 11 = gI 0) : mF h S0 (f_M_answerNumber (some 30) vl (gv_ov h S)) (gV_1 (gc_n vl)) := by
  obtain ⟨S', e1, e2, e3, e4⟩ := m_ansN (h := h) hx hb
  rw [e1]
  exact mF.val (q.trans (e2.le fun _ _ w => mSet_st w)) e4 e3
theorem mF.ansS (hx : fd_f vl) (q : mX mSt S0 S) (hb : S.1 30 11 = gI e) (h8 : e ≤ 8) : mF h S0 (f_M_answerNumber (some 30) vl (gv_ov h S)) (gV_1 (sx e (gc_n vl))) := by
  by_cases z : e = 0
  · rw [show sx e (gc_n vl) = gc_n vl from if_pos z]
    exact mF.ansN hx q (by rw [hb, z])
  · rw [show sx e (gc_n vl) = gc_e e from if_neg z]
    exact mF.ansE hx.n q hb z h8
theorem mF.ansT (t : Bool) (q : mX mSt S0 S) (hb : S.1 30 11 = gI e) (h8 : e ≤ 8) : mF h S0 (f_M_answerTruth (some 30) (gB t) (gv_ov h S)) (gV_1 (sx e (gc_b t))) := by
  obtain ⟨S', e1, e2, e3, e4⟩ := m_ansT (h := h) t hb
  rw [e1]
  have q' := q.trans (e2.le fun _ _ w => mSet_st w)
  by_cases z : e = 0
  · rw [show sx e (gc_b t) = gc_b t from if_pos z]
    exact mF.val q' (by rw [e4, z]) e3
  · rw [show sx e (gc_b t) = gc_e e from if_neg z]
    exact mF.err q' e4 z h8
theorem mNv.step (hx : fd_n vl) (hb : S.1 30 11 = gI 0) : mNv h S (f_M_step (some 30) vl (gv_ov h S)) (gc_num vl) := by
  obtain ⟨S', w, k1, k2, k3⟩ := m_stepV (h := h) hx hb
  exact ⟨S', w, k1, k2, k3⟩
theorem mNv.val (hx : fd_f vl) (hb : S.1 30 11 = gI 0) : mNv h S (some (vl, gv_ov h S)) (gc_n vl) := ⟨S, vl, rfl, mX.refl _ _, hb, hx.n, fun _ => ⟨rfl, hx⟩⟩
theorem mNv.bad {S1 : gv_S} (hx : fd_n vl) (q : mX mB S S1) (hb : S1.1 30 11 = gI e) (h1 : e ≠ 0) (h8 : e ≤ 8) : mNv h S (some (vl, gv_ov h S1)) (gc_e e) := ⟨S1, vl, rfl, q, mp_err rfl (by omega) h8 hx hb⟩
theorem mNv.failed (hx : fd_n vl) (hb : S.1 30 11 = gI 0) (h1 : e ≠ 0) (h8 : e ≤ 8) : (gk_ca (f_M_fail (some 30) (gI e) (gv_ov h S)) fun _ h1 => some (vl, h1)) = some (vl, gv_ov h (gv_uI S 30 11 (gI e))) ∧ mNv h S (some (vl, gv_ov h (gv_uI S 30 11 (gI e)))) (gc_e e) := by
  have e1 := m_fail (h := h) 0 e hb (by decide)
  rw [bl_n] at e1
  rw [e1, gk_ca_some]
  exact ⟨rfl, mNv.bad hx (mX.I _ ⟨rfl, rfl⟩) (gu_I2 _ _ _ _) h1 h8⟩
theorem mNv.pre (q : mX mB S0 S) {y : Option (UInt64 × gk_H)} (r : mNv h S y c) : mNv h S0 y c := by
  obtain ⟨S', w, r1, r2, r3⟩ := r
  exact ⟨S', w, r1, q.trans r2, r3⟩
theorem mNv.div {x y : UInt64} (hx : fd_f x) (hy : fd_f y) (hb : S.1 30 11 = gI 0) : mNv h S (f_M_divide (some 30) x y (gv_ov h S)) (if fd_k y = 0 then gc_e 2 else gc_num (FP.ddiv x y)) := by
  obtain ⟨S', w, k1, k2, k3⟩ := mo_divide (h := h) hx hy hb
  exact ⟨S', w, k1, k2, k3⟩
/-- a number reckoned is the answer -/
theorem mNv.ans {y : Option (UInt64 × gk_H)} (r : mNv h S y c) (q : mX mSt S0 S) (hc : isR c) : mF h S0 (gk_ca y fun x1 h1 => gk_cv h1 (some 30) 7 (f_M_answerNumber (some 30) x1 h1) fun _ h2 => some ((), h2)) (gV_1 c) := by
  obtain ⟨S', w, r1, r2, r3⟩ := r
  rw [r1, gk_ca_some, gc_30, gu_idU]
  exact mF.ans r3 (q.trans (r2.le fun _ _ w => mQ_st (mB_q w))) hc
theorem mB_st {a b : Nat} (z : mB a b) : mSt a b := mQ_st (mB_q z)
theorem ite0 {β : Sort _} (e : Nat) (he : e ≤ 8) (x y : β) : (if gI e = (0 : Int32) then x else y) = if e = 0 then x else y := ite_eq x y e 0 (by omega) (by decide)
theorem itl0 {β : Sort _} (e : Nat) (he : e ≤ 8) (x y : β) : (if gI e ≤ (0 : Int32) then x else y) = if e = 0 then x else y := by
  rw [show (0 : Int32) = gI 0 from rfl, ite_le _ _ _ _ (by omega) (by decide)]
  by_cases z : e = 0
  · rw [if_pos z, if_pos (by omega)]
  · rw [if_neg z, if_neg (by omega)]
end MFU
