/-! THE PURE PART: arithmetic (class) -/
def vR (b : Nat) (h : gk_H) (S : gv_S) (x : Option (Option Nat × gk_H)) (c : gp_C) : Prop := ∃ r h', x = some (some r, gv_ov h' S) ∧ gp_cell b h' r c ∧ gp_ext 1 7 h h'
theorem ca_id {α : Type} (x : Option (α × gk_H)) : (gk_ca x fun x1 h1 => some (x1, h1)) = x := by
  cases x <;> rfl
/-- finite, by its order -/
abbrev fin (x : UInt64) : Prop := -9218868437227405311 ≤ fd_k x ∧ fd_k x ≤ 9218868437227405311
theorem fin_f {x : UInt64} (h : fd_n x) : fin x ↔ fd_f x := (fd_f_k h).symm
theorem gc_num_f {x : UInt64} (h : fin x) : gc_num x = gc_n x := if_pos h
theorem gc_num_i {x : UInt64} (h : ¬ fin x) : gc_num x = gc_e 6 := if_neg h
theorem v_fin {a : UInt64} (ha : fd_n a) (h : gk_H) : f_Va_isFinite a h = some (if fin a then 1 else 0, h) := v_isFinite ha h
theorem gc_n_c {x y : UInt64} (h : fd_c x = fd_c y) : gc_n x = gc_n y := by
  unfold gc_n
  rw [h]
def s_tr (x : UInt64) : UInt64 := if -4845873199050653696 < fd_k x ∧ fd_k x < 4845873199050653696 then FP.l2d (FP.d2l x) else x
theorem m_whole {x : UInt64} (hx : fd_n x) (h : gk_H) : f_Am_wholePart x h = some (s_tr x, h) := m_wholePart hx h
theorem s_tr_n {x : UInt64} (h : fd_n x) : fd_n (s_tr x) := by
  unfold s_tr
  split
  · exact (fd_l2df _).n
  · exact h
theorem s_tr_f {x : UInt64} (h : fd_f x) : fd_f (s_tr x) := by
  unfold s_tr
  split
  · exact fd_l2df _
  · exact h
/-- endless numbers -/
theorem fd_inf {x : UInt64} (h : fd_n x) (hf : ¬ fd_f x) : ∃ s, FP.Core.val64 x = .inf s := by
  cases e : FP.Core.val64 x with
  | nan => exact absurd e h
  | inf s => exact ⟨s, rfl⟩
  | fin s c q => exact absurd ⟨s, c, q, e⟩ hf
theorem fd_inf_n {x : UInt64} {s : Bool} (h : FP.Core.val64 x = .inf s) : fd_n x ∧ ¬ fd_f x := by
  refine ⟨fun z => (by rw [h] at z; cases z), fun z => ?_⟩
  obtain ⟨t, c, q, e⟩ := z
  rw [h] at e
  cases e
theorem fd_inf_mul {a b : UInt64} (ha : fd_n a) (hi : ¬ fd_f a) (hb : fd_f b) (hz : fd_k b ≠ 0) : fd_n (FP.dmul a b) ∧ ¬ fd_f (FP.dmul a b) := by
  have hn := fd_mul_n' ha hb hz
  refine ⟨hn, ?_⟩
  obtain ⟨s, e⟩ := fd_inf ha hi
  obtain ⟨t, d, r, e2⟩ := hb
  have hd : d ≠ 0 := fun z => by
    have : FP.Core.DZero b := ⟨t, r, by rw [e2, z]⟩
    rw [FP.Core.zero_bits2] at this
    apply hz
    have := b.toNat_lt
    unfold fd_k FP.Core.dkey
    split <;> omega
  have hv : FP.Core.val64 (FP.dmul a b) = FP.Core.round FP.Core.b64 (FP.Core.exactProduct (FP.Core.val64 a) (FP.Core.val64 b)) := FP.Core.val64_dmul a b
  rw [e, e2] at hv
  have hp : FP.Core.exactProduct (.inf s) (.fin t d r) = .inf (s != t) := by
    show (if d = 0 then _ else _) = _
    rw [if_neg hd]
  rw [hp] at hv
  exact (fd_inf_n hv).2
theorem fd_inf_div {a b : UInt64} (ha : fd_n a) (hi : ¬ fd_f a) (hb : fd_f b) (hz : fd_k b ≠ 0) : fd_n (FP.ddiv a b) ∧ ¬ fd_f (FP.ddiv a b) := by
  have hn := fd_ddiv ha hb hz
  refine ⟨hn, ?_⟩
  obtain ⟨s, e⟩ := fd_inf ha hi
  obtain ⟨t, d, r, e2⟩ := hb
  have hv : FP.Core.val64 (FP.ddiv a b) = FP.Core.quotient FP.Core.b64 (FP.Core.val64 a) (FP.Core.val64 b) := FP.Core.val64_ddiv a b
  rw [e, e2] at hv
  exact (fd_inf_n (s := s != t) hv).2
theorem fd_sub_n' {a b : UInt64} (ha : fd_f a) (hb : fd_n b) : fd_n (FP.dsub a b) := by
  refine (FP.Core.notNaN_iff _).mp (Bool.eq_false_iff.mpr fun z => ?_)
  obtain ⟨s, c, q, e⟩ := ha
  rcases (FP.Core.dsub_nan_iff a b).mp z with w | w | ⟨w, w1, w2⟩
  · rw [e] at w; cases w
  · exact hb w
  · rw [e] at w1; cases w1
theorem fd_add_n' {a b : UInt64} (ha : fd_n a) (hb : fd_f b) : fd_n (FP.dadd a b) := by
  refine (FP.Core.notNaN_iff _).mp (Bool.eq_false_iff.mpr fun z => ?_)
  obtain ⟨s, c, q, e⟩ := hb
  rcases (FP.Core.dadd_nan_iff a b).mp z with w | w | ⟨w, w1, w2⟩
  · exact ha w
  · rw [e] at w; cases w
  · rw [e] at w2; cases w2
/-- powers -/
def pwl : Nat → Nat → UInt64 → UInt64 → Option UInt64
  | 0, _, r, _ => some r
  | k + 1, e, r, b =>
    if e = 0 then some r
    else if -9218868437227405311 ≤ fd_k (if e % 2 = 1 then FP.dmul r b else r) ∧ fd_k (if e % 2 = 1 then FP.dmul r b else r) ≤ 9218868437227405311 then
      if e ≤ 1 then some (if e % 2 = 1 then FP.dmul r b else r)
      else if -9218868437227405311 ≤ fd_k (FP.dmul b b) ∧ fd_k (FP.dmul b b) ≤ 9218868437227405311 then pwl k (e / 2) (if e % 2 = 1 then FP.dmul r b else r) (FP.dmul b b)
      else none
    else none
def sp_pow (x y : UInt64) : gp_C :=
  if fd_k y < -4652209618980700160 ∨ 4652209618980700160 < fd_k y ∨ fd_k (s_tr y) ≠ fd_k y then gc_e 6
  else if fd_k x = 0 ∧ fd_k y ≤ 0 then gc_e (if fd_k y = 0 then 6 else 2)
  else match pwl 12 (fd_T (wr_y y)).toNat 0x3ff0000000000000 x with
    | none => gc_e 6
    | some r => if fd_k y < 0 then (if fd_k r = 0 then gc_e 6 else gc_num (FP.ddiv 0x3ff0000000000000 r)) else gc_n r
theorem gN_div2 (e : Nat) (h : e < 2000) : gI e / (2 : Int32) = gI (e / 2) ∧ ((gI e - gI e / (2 : Int32) * (2 : Int32)) = (1 : Int32) ↔ e % 2 = 1) := by
  have : ∀ e : Fin 2000, gI e.val / (2 : Int32) = gI (e.val / 2) ∧ ((gI e.val - gI e.val / (2 : Int32) * (2 : Int32)) = (1 : Int32) ↔ e.val % 2 = 1) := by decide +kernel
  exact this ⟨e, h⟩
theorem m_pwl : ∀ (k e : Nat) (r b : UInt64) (fu : Nat) (h : gk_H), e < 2 ^ k → k < fu → e < 2000 → fd_f r → fd_f b → ∃ v, f_Am_powerOfSize_b8 fu r b (gI e) h = some (v, h) ∧ fd_n v ∧ ((∃ w, pwl k e r b = some w ∧ v = w ∧ fin w) ∨ pwl k e r b = none ∧ ¬ fin v) := by
  intro k
  induction k with
  | zero =>
    intro e r b fu h he hf _ hr hb
    obtain ⟨fu, rfl⟩ : ∃ f, fu = f + 1 := ⟨fu - 1, by omega⟩
    have : e = 0 := by have h2 : e < 1 := he; omega
    subst this
    rw [f_Am_powerOfSize_b8]
    dsimp only
    rw [gI_0, ite_le _ _ _ _ (by decide) (by decide), if_pos (Nat.le_refl _)]
    exact ⟨r, rfl, hr.n, Or.inl ⟨r, rfl, rfl, (fin_f hr.n).mpr hr⟩⟩
  | succ k ih =>
    intro e r b fu h he hf h2 hr hb
    obtain ⟨fu, rfl⟩ : ∃ f, fu = f + 1 := ⟨fu - 1, by omega⟩
    rw [f_Am_powerOfSize_b8]
    dsimp only
    unfold pwl
    rw [gI_0, ite_le _ _ _ _ (by omega) (by decide)]
    by_cases e0 : e = 0
    · rw [if_pos (by omega), if_pos e0]
      exact ⟨r, rfl, hr.n, Or.inl ⟨r, rfl, rfl, (fin_f hr.n).mpr hr⟩⟩
    · rw [if_neg (by omega), if_neg e0]
      obtain ⟨d1, d2⟩ := gN_div2 e h2
      have hrn : fd_n (if e % 2 = 1 then FP.dmul r b else r) := by
        split
        · exact fd_mul_n hr hb
        · exact hr.n
      have b26 : ∃ v, f_Am_powerOfSize_b26 (f_Am_powerOfSize_b8 fu) (if e % 2 = 1 then FP.dmul r b else r) b (gI e) h = some (v, h) ∧ fd_n v ∧ ((∃ w, (if -9218868437227405311 ≤ fd_k (if e % 2 = 1 then FP.dmul r b else r) ∧ fd_k (if e % 2 = 1 then FP.dmul r b else r) ≤ 9218868437227405311 then if e ≤ 1 then some (if e % 2 = 1 then FP.dmul r b else r) else if -9218868437227405311 ≤ fd_k (FP.dmul b b) ∧ fd_k (FP.dmul b b) ≤ 9218868437227405311 then pwl k (e / 2) (if e % 2 = 1 then FP.dmul r b else r) (FP.dmul b b) else none else none) = some w ∧ v = w ∧ fin w) ∨ (if -9218868437227405311 ≤ fd_k (if e % 2 = 1 then FP.dmul r b else r) ∧ fd_k (if e % 2 = 1 then FP.dmul r b else r) ≤ 9218868437227405311 then if e ≤ 1 then some (if e % 2 = 1 then FP.dmul r b else r) else if -9218868437227405311 ≤ fd_k (FP.dmul b b) ∧ fd_k (FP.dmul b b) ≤ 9218868437227405311 then pwl k (e / 2) (if e % 2 = 1 then FP.dmul r b else r) (FP.dmul b b) else none else none) = none ∧ ¬ fin v) := by
        generalize (if e % 2 = 1 then FP.dmul r b else r) = r' at hrn
        unfold f_Am_powerOfSize_b26 f_Am_powerOfSize_b48
        rw [v_fin hrn, gk_ca_some]
        by_cases f1 : fin r'
        · have f1' : -9218868437227405311 ≤ fd_k r' ∧ fd_k r' ≤ 9218868437227405311 := f1
          rw [if_pos f1, if_neg (by decide), if_pos f1', gI_1, ite_le _ _ _ _ (by omega) (by decide)]
          by_cases e1 : e ≤ 1
          · rw [if_pos e1, if_pos e1, v_fin hb.n, gk_ca_some, if_pos ((fin_f hb.n).mpr hb), if_neg (by decide), d1, gk_let_eq]
            obtain ⟨fu, rfl⟩ : ∃ f, fu = f + 1 := ⟨fu - 1, by omega⟩
            rw [f_Am_powerOfSize_b8]
            dsimp only
            rw [show e / 2 = 0 from by omega, gI_0, ite_le _ _ _ _ (by decide) (by decide), if_pos (Nat.le_refl _)]
            exact ⟨r', rfl, hrn, Or.inl ⟨r', rfl, rfl, f1⟩⟩
          · have hbn := fd_mul_n hb hb
            rw [if_neg e1, if_neg e1, fd_dop hbn, v_fin hbn, gk_ca_some]
            by_cases f2 : fin (FP.dmul b b)
            · have f2' : -9218868437227405311 ≤ fd_k (FP.dmul b b) ∧ fd_k (FP.dmul b b) ≤ 9218868437227405311 := f2
              rw [if_pos f2, if_neg (by decide), if_pos f2', d1, gk_let_eq]
              exact ih (e / 2) r' (FP.dmul b b) fu h (by have : 2 ^ (k + 1) = 2 ^ k * 2 := Nat.pow_succ 2 k; omega) (by omega) (by omega) ((fin_f hrn).mp f1) ((fin_f hbn).mp f2)
            · have f2' : ¬ (-9218868437227405311 ≤ fd_k (FP.dmul b b) ∧ fd_k (FP.dmul b b) ≤ 9218868437227405311) := f2
              rw [if_neg f2, if_pos rfl, if_neg f2']
              exact ⟨_, rfl, hbn, Or.inr ⟨rfl, f2⟩⟩
        · have f1' : ¬ (-9218868437227405311 ≤ fd_k r' ∧ fd_k r' ≤ 9218868437227405311) := f1
          rw [if_neg f1, if_pos rfl, if_neg f1']
          exact ⟨_, rfl, hrn, Or.inr ⟨rfl, f1⟩⟩
      by_cases e2 : e % 2 = 1
      · rw [if_pos e2] at hrn
        rw [if_pos (d2.mpr e2), fd_dop hrn]
        simp only [if_pos e2] at b26 ⊢
        exact b26
      · rw [if_neg (fun z => e2 (d2.mp z))]
        simp only [if_neg e2] at b26 ⊢
        exact b26
theorem fd_pm_n : fd_n 0xc08ff80000000000 ∧ fd_n 0x408ff80000000000 := ⟨(FP.Core.ne_nan _).mpr (by decide), (FP.Core.ne_nan _).mpr (by decide)⟩
theorem fd_pm_k : fd_k 0xc08ff80000000000 = -4652209618980700160 ∧ fd_k 0x408ff80000000000 = 4652209618980700160 := by decide
theorem fd_pm_v : fd_v 0x408ff80000000000 = 1023 * fd_P := by decide +kernel
theorem fd_1_f : fd_f 0x3ff0000000000000 := fd_i1.f
theorem pw_e {y : UInt64} (hy : fd_n y) (h1 : -4652209618980700160 ≤ fd_k y) (h2 : fd_k y ≤ 4652209618980700160) : FP.d2i (wr_y y) = gI (fd_T (wr_y y)).toNat ∧ (fd_T (wr_y y)).toNat < 2 ^ 11 ∧ (fd_T (wr_y y)).toNat < 2000 := by
  obtain ⟨y1, y2⟩ := wr_yn hy
  have hk0 := wr_y_k hy
  have hk : fd_k (wr_y y) ≤ 4652209618980700160 := by rw [y2]; split <;> omega
  have hv := (fd_kv_le y1 fd_pm_n.2).mp (by rw [fd_pm_k.2]; exact hk)
  rw [fd_pm_v] at hv
  have hp := (fd_T_pos ((fd_kv_0 y1).2.2.2.mp hk0))
  have hP := fd_P_pos
  have ht := fd_T_lt (a := wr_y y) (z := 1024) (by decide) (by omega)
  refine ⟨?_, by omega, by omega⟩
  rw [fd_d2i y1 (by omega) (by omega), gI_N]
  congr 1
  omega
section AR
variable {b : Nat} {h : gk_H} {S : gv_S}
theorem vr_num (hc : gp_cs b h) {x : UInt64} (hx : fd_n x) : vR b h S (f_Va_ofNumber x (gv_ov h S)) (gc_num x) := v_num hc hx
theorem vr_err (hc : gp_cs b h) (e : Nat) (h1 : 1 ≤ e) (h2 : e ≤ 8) : vR b h S (f_Va_ofError (gI e) (gv_ov h S)) (gc_e e) := v_err hc e h1 h2
theorem vr_n (hc : gp_cs b h) {x : UInt64} (hx : fd_f x) : vR b h S (f_Va_ofNumber x (gv_ov h S)) (gc_n x) := by
  have := vr_num (S := S) hc hx.n
  rw [gc_num_f ((fin_f hx.n).mpr hx)] at this
  exact this
theorem m_power (hc : gp_cs b h) {x y : UInt64} (hx : fd_f x) (hy : fd_f y) : vR b h S (f_Am_power x y (gv_ov h S)) (sp_pow x y) := by
  have e6 := vr_err (S := S) hc 6 (by decide) (by decide)
  have e2 := vr_err (S := S) hc 2 (by decide) (by decide)
  unfold f_Am_power f_Am_power_b25 f_Am_power_b55 f_Am_power_b59 f_Am_power_b91 f_Am_power_b97 f_Am_power_b112 sp_pow
  simp only [ca_id]
  rw [fi_lt _ _ hy.n fd_pm_n.1, fi_gt _ _ hy.n fd_pm_n.2, fd_pm_k.1, fd_pm_k.2]
  by_cases c1 : fd_k y < -4652209618980700160
  · rw [if_pos c1, if_pos (Or.inl c1)]
    exact e6
  · rw [if_neg c1]
    by_cases c2 : 4652209618980700160 < fd_k y
    · rw [if_pos c2, if_pos (Or.inr (Or.inl c2))]
      exact e6
    · rw [if_neg c2, m_whole hy.n, gk_ca_some, fi_eq _ _ (s_tr_n hy.n) hy.n]
      by_cases c3 : fd_k (s_tr y) = fd_k y
      · obtain ⟨p1, p2, p3⟩ := pw_e hy.n (by omega) (by omega)
        obtain ⟨v, q1, q2, q3⟩ := m_pwl 12 _ 0x3ff0000000000000 x gk_F (gv_ov h S) (Nat.lt_of_lt_of_le p2 (by decide)) (by unfold gk_F; omega) p3 fd_1_f hx
        have b59 : vR b h S (gk_ca (f_Am_sizeOf y (gv_ov h S)) fun x1 h1 => gk_ca (f_Am_powerOfSize x (FP.d2i x1) h1) fun x2 h2 => gk_ca (f_Va_isFinite x2 h2) fun x3 h3 => if x3 = 0 then f_Va_ofError 6 h3 else if 0 ≤ (Op.cmpValue (FP.dcmp y 0) .g) then (if 0 ≤ (Op.cmpValue (FP.dcmp y 0) .g) then f_Va_ofNumber x2 h3 else gk_dop (FP.ddiv 0x3ff0000000000000 x2) fun x1 => f_Va_ofNumber x1 h3) else if (Op.cmpValue (FP.dcmp x2 0) .l) = 0 then f_Va_ofError 6 h3 else (if 0 ≤ (Op.cmpValue (FP.dcmp y 0) .g) then f_Va_ofNumber x2 h3 else gk_dop (FP.ddiv 0x3ff0000000000000 x2) fun x1 => f_Va_ofNumber x1 h3)) (match pwl 12 (fd_T (wr_y y)).toNat 0x3ff0000000000000 x with | none => gc_e 6 | some r => if fd_k y < 0 then (if fd_k r = 0 then gc_e 6 else gc_num (FP.ddiv 0x3ff0000000000000 r)) else gc_n r) := by
          have q1' : f_Am_powerOfSize x (gI (fd_T (wr_y y)).toNat) (gv_ov h S) = some (v, gv_ov h S) := q1
          rw [m_sizeOf hy.n, gk_ca_some, p1, q1', gk_ca_some, v_fin q2, gk_ca_some]
          rcases q3 with ⟨w, r1, r2, r3⟩ | ⟨r1, r2⟩
          · subst r2
            have hvf := (fin_f q2).mp r3
            rw [if_pos r3, if_neg (by decide), r1, fi_ge _ _ hy.n fd_0_n, fi_ge _ _ hy.n fd_0_n, fi_eq _ _ q2 fd_0_n, fd_k0]
            dsimp only
            by_cases c4 : 0 ≤ fd_k y
            · rw [if_pos c4, if_pos c4, if_neg (by omega)]
              exact vr_n hc hvf
            · rw [if_neg c4, if_neg c4, if_pos (show fd_k y < 0 from by omega)]
              by_cases c5 : fd_k v = 0
              · rw [if_pos c5, if_pos c5]
                exact e6
              · have hd := fd_ddiv fd_1_f.n hvf c5
                rw [if_neg c5, if_neg c5, fd_dop hd]
                exact vr_num hc hd
          · rw [if_neg r2, if_pos rfl, r1]
            exact e6
        have hg0 : ¬ (fd_k y < -4652209618980700160 ∨ 4652209618980700160 < fd_k y ∨ fd_k (s_tr y) ≠ fd_k y) := by omega
        rw [if_pos c3, if_neg hg0, fi_eq _ _ hx.n fd_0_n, fi_gt _ _ hy.n fd_0_n, fi_eq _ _ hy.n fd_0_n, fd_k0]
        by_cases c4 : fd_k x = 0
        · rw [if_pos c4]
          by_cases c5 : 0 < fd_k y
          · rw [if_pos c5, if_neg (show ¬ (fd_k x = 0 ∧ fd_k y ≤ 0) from by omega)]
            exact b59
          · rw [if_neg c5, if_pos (show fd_k x = 0 ∧ fd_k y ≤ 0 from by omega)]
            by_cases c6 : fd_k y = 0
            · rw [if_pos c6, if_pos c6]
              exact e6
            · rw [if_neg c6, if_neg c6]
              exact e2
        · rw [if_neg c4, if_neg (show ¬ (fd_k x = 0 ∧ fd_k y ≤ 0) from by omega)]
          exact b59
      · rw [if_neg c3, if_pos (Or.inr (Or.inr c3))]
        exact e6
def sp_mod (x y : UInt64) : gp_C := if fd_k y = 0 then gc_e 2 else if -9218868437227405311 ≤ fd_k (FP.ddiv x y) ∧ fd_k (FP.ddiv x y) ≤ 9218868437227405311 then gc_num (FP.dsub x (FP.dmul y (s_fl (FP.ddiv x y)))) else gc_e 6
theorem m_modulo (hc : gp_cs b h) {x y : UInt64} (hx : fd_f x) (hy : fd_f y) : vR b h S (f_Am_modulo x y (gv_ov h S)) (sp_mod x y) := by
  unfold f_Am_modulo sp_mod
  simp only [ca_id]
  rw [fi_eq _ _ hy.n fd_0_n, fd_k0]
  by_cases z : fd_k y = 0
  · rw [if_pos z, if_pos z]
    exact vr_err hc 2 (by decide) (by decide)
  · have hd := fd_ddiv hx.n hy z
    rw [if_neg z, if_neg z, fd_dop hd, v_fin hd, gk_ca_some]
    by_cases f1 : fin (FP.ddiv x y)
    · have hfl := s_fl_f ((fin_f hd).mp f1)
      have hm := fd_mul_n hy hfl
      have hs := fd_sub_n' hx hm
      rw [if_pos f1, if_neg (by decide), m_floor hd, gk_ca_some, fd_dop hm, fd_dop hs]
      have f1' : -9218868437227405311 ≤ fd_k (FP.ddiv x y) ∧ fd_k (FP.ddiv x y) ≤ 9218868437227405311 := f1
      rw [if_pos f1']
      exact vr_num hc hs
    · have f1' : ¬ (-9218868437227405311 ≤ fd_k (FP.ddiv x y) ∧ fd_k (FP.ddiv x y) ≤ 9218868437227405311) := f1
      rw [if_neg f1, if_pos rfl, if_neg f1']
      exact vr_err hc 6 (by decide) (by decide)
def sp_quo (x y : UInt64) : gp_C := if fd_k y = 0 then gc_e 2 else gc_num (s_tr (FP.ddiv x y))
theorem m_quotient (hc : gp_cs b h) {x y : UInt64} (hx : fd_f x) (hy : fd_f y) : vR b h S (f_Am_quotient x y (gv_ov h S)) (sp_quo x y) := by
  unfold f_Am_quotient sp_quo
  simp only [ca_id]
  rw [fi_eq _ _ hy.n fd_0_n, fd_k0]
  by_cases z : fd_k y = 0
  · rw [if_pos z, if_pos z]
    exact vr_err hc 2 (by decide) (by decide)
  · have hd := fd_ddiv hx.n hy z
    rw [if_neg z, if_neg z, fd_dop hd, m_whole hd, gk_ca_some]
    exact vr_num hc (s_tr_n hd)
def s_fac : Nat → Nat → UInt64 → UInt64
  | 0, _, r => r
  | k + 1, j, r => s_fac k (j + 1) (FP.dmul r (FP.i2d (gI j)))
theorem fd_i2nz {j : Nat} (h : 1 ≤ j) (h2 : j < 2147483648) : fd_f (FP.i2d (gI j)) ∧ fd_k (FP.i2d (gI j)) ≠ 0 := by
  have e := fd_i2dI h2
  refine ⟨e.f, fun z => ?_⟩
  have := (fd_i.eq e fd_i0).mp (by rw [z]; rfl)
  omega
theorem s_fac_n : ∀ k j r, 1 ≤ j → j + k < 2147483648 → fd_n r → fd_n (s_fac k j r)
  | 0, _, _, _, _, h => h
  | k + 1, j, r, h1, h2, h => by
    obtain ⟨a1, a2⟩ := fd_i2nz h1 (by omega)
    exact s_fac_n k (j + 1) _ (by omega) (by omega) (fd_mul_n' h a1 a2)
def sp_fac (n : Int) : gp_C := if n < 0 ∨ 170 < n then gc_e 6 else gc_num (s_fac (n.toNat - 1) 2 0x3ff0000000000000)
theorem m_factorial (hc : gp_cs b h) (n : Int) (hn : -9223372036854775808 ≤ n) (hn2 : n < 9223372036854775808) : vR b h S (f_Am_factorial (gJ n) (gv_ov h S)) (sp_fac n) := by
  unfold f_Am_factorial f_Am_factorial_b14 sp_fac
  simp only [ca_id]
  rw [show (0 : Int64) = gJ 0 from rfl, show (170 : Int64) = gJ 170 from rfl, jte_lt _ _ _ _ hn hn2 (by decide) (by decide), jte_le _ _ _ _ hn hn2 (by decide) (by decide)]
  have e6 := vr_err (S := S) hc 6 (by decide) (by decide)
  by_cases c1 : n < 0
  · rw [if_pos c1, if_pos (Or.inl c1)]
    exact e6
  · rw [if_neg c1]
    by_cases c2 : n ≤ 170
    · rw [if_pos c2, if_neg (by omega)]
      have loop : ∀ (k j fu : Nat) (r : UInt64), (j : Int) + k = (if n < 2 then 2 else n + 1) → 2 ≤ j → k < fu → fd_n r → f_Am_factorial_b25 fu (gJ n) r (gI j) (gv_ov h S) = f_Va_ofNumber (s_fac k j r) (gv_ov h S) := by
        intro k
        induction k with
        | zero =>
          intro j fu r hj hj2 hf hr
          obtain ⟨fu, rfl⟩ : ∃ f, fu = f + 1 := ⟨fu - 1, by omega⟩
          rw [f_Am_factorial_b25]
          dsimp only
          have hj3 : n < j := by split at hj <;> omega
          have hj4 : j < 1000 := by split at hj <;> omega
          rw [gI_toJ _ (by omega), jte_gt _ _ _ _ (by omega) (by omega) hn hn2, if_pos hj3, ca_id]
          rfl
        | succ k ih =>
          intro j fu r hj hj2 hf hr
          obtain ⟨fu, rfl⟩ : ∃ f, fu = f + 1 := ⟨fu - 1, by omega⟩
          rw [f_Am_factorial_b25]
          dsimp only
          have hj3 : ¬ n < j := by split at hj <;> omega
          obtain ⟨a1, a2⟩ := fd_i2nz (j := j) (by omega) (by omega)
          have hm := fd_mul_n' hr a1 a2
          rw [gI_toJ _ (by omega), jte_gt _ _ _ _ (by omega) (by omega) hn hn2, if_neg hj3, fd_dop hm, gk_let_eq, gI_1, gI_add]
          exact ih (j + 1) fu _ (by omega) (by omega) (by omega) hm
      have hk : ((2 : Nat) : Int) + ((n.toNat - 1 : Nat) : Int) = (if n < 2 then 2 else n + 1) := by split <;> omega
      have := loop (n.toNat - 1) 2 gk_F 0x3ff0000000000000 hk (Nat.le_refl _) (by unfold gk_F; omega) fd_1_f.n
      rw [show (2 : Int32) = gI 2 from rfl, this]
      exact vr_num hc (s_fac_n _ _ _ (by decide) (by omega) fd_1_f.n)
    · rw [if_neg c2, if_pos (Or.inr (by omega))]
      exact e6
def s_com (a : Nat) : Nat → Nat → UInt64 → UInt64
  | 0, _, r => r
  | k + 1, j, r => s_com a k (j + 1) (FP.ddiv (FP.dmul r (FP.l2d (gJ ((a + j : Nat) : Int)))) (FP.i2d (gI j)))
theorem fd_l2nz {j : Nat} (h : 1 ≤ j) (h2 : j < 9007199254740992) : fd_f (FP.l2d (gJ (j : Int))) ∧ fd_k (FP.l2d (gJ (j : Int))) ≠ 0 := by
  have e := fd_l2d (z := (j : Int)) (by omega) (by omega)
  refine ⟨e.f, fun z => ?_⟩
  have := (fd_i.eq e fd_i0).mp (by rw [z]; rfl)
  omega
theorem s_com_n (a : Nat) (ha : a < 2000) : ∀ k j r, 1 ≤ j → j + k < 4000 → fd_n r → fd_n (s_com a k j r)
  | 0, _, _, _, _, h => h
  | k + 1, j, r, h1, h2, h => by
    obtain ⟨a1, a2⟩ := fd_i2nz h1 (by omega)
    obtain ⟨a3, a4⟩ := fd_l2nz (j := a + j) (by omega) (by omega)
    exact s_com_n a ha k (j + 1) _ (by omega) (by omega) (fd_ddiv (fd_mul_n' h a3 a4) a1 a2)
def sp_com (m k : Int) : gp_C := if k < 0 ∨ m < k ∨ 1000 < m then gc_e 6 else gc_num (s_com (m - k).toNat k.toNat 1 0x3ff0000000000000)
theorem m_combinations (hc : gp_cs b h) (m k : Int) (hm : -9223372036854775808 ≤ m) (hm2 : m < 9223372036854775808) (hk : -9223372036854775808 ≤ k) (hk2 : k < 9223372036854775808) : vR b h S (f_Am_combinations (gJ m) (gJ k) (gv_ov h S)) (sp_com m k) := by
  unfold f_Am_combinations f_Am_combinations_b20 sp_com
  simp only [ca_id]
  rw [show (0 : Int64) = gJ 0 from rfl, show (1000 : Int64) = gJ 1000 from rfl, jte_lt _ _ _ _ hk hk2 (by decide) (by decide), jte_le _ _ _ _ hm hm2 (by decide) (by decide), jte_gt _ _ _ _ hk hk2 hm hm2]
  have e6 := vr_err (S := S) hc 6 (by decide) (by decide)
  by_cases c1 : k < 0
  · rw [if_pos c1, if_pos (Or.inl c1)]
    exact e6
  · rw [if_neg c1]
    by_cases c2 : m < k
    · rw [if_pos c2, if_pos (Or.inr (Or.inl c2))]
      exact e6
    · rw [if_neg c2]
      by_cases c3 : m ≤ 1000
      · rw [if_pos c3, if_neg (by omega)]
        have loop : ∀ (q j fu : Nat) (r : UInt64), (j : Int) + q = k + 1 → 1 ≤ j → q < fu → fd_n r → f_Am_combinations_b32 fu (gJ m) (gJ k) r (gI j) (gv_ov h S) = f_Va_ofNumber (s_com (m - k).toNat q j r) (gv_ov h S) := by
          intro q
          induction q with
          | zero =>
            intro j fu r hj hj2 hf hr
            obtain ⟨fu, rfl⟩ : ∃ f, fu = f + 1 := ⟨fu - 1, by omega⟩
            rw [f_Am_combinations_b32]
            dsimp only
            rw [gI_toJ _ (by omega), jte_gt _ _ _ _ (by omega) (by omega) hk hk2, if_pos (by omega), ca_id]
            rfl
          | succ q ih =>
            intro j fu r hj hj2 hf hr
            obtain ⟨fu, rfl⟩ : ∃ f, fu = f + 1 := ⟨fu - 1, by omega⟩
            rw [f_Am_combinations_b32]
            dsimp only
            obtain ⟨a1, a2⟩ := fd_i2nz (j := j) (by omega) (by omega)
            obtain ⟨a3, a4⟩ := fd_l2nz (j := (m - k).toNat + j) (by omega) (by omega)
            have h1 := fd_mul_n' hr a3 a4
            have h2 := fd_ddiv h1 a1 a2
            have e1 : (m - k) + (j : Int) = (((m - k).toNat + j : Nat) : Int) := by omega
            rw [gI_toJ _ (by omega), jte_gt _ _ _ _ (by omega) (by omega) hk hk2, if_neg (by omega), gJ_sub, gJ_add, e1, fd_dop h1, fd_dop h2, gk_let_eq, gI_1, gI_add]
            exact ih (j + 1) fu _ (by omega) (by omega) (by omega) h2
        rw [show (1 : Int32) = gI 1 from rfl, loop k.toNat 1 gk_F 0x3ff0000000000000 (by omega) (Nat.le_refl _) (by unfold gk_F; omega) fd_1_f.n]
        exact vr_num hc (s_com_n _ (by omega) _ _ _ (by decide) (by omega) fd_1_f.n)
      · rw [if_neg c3, if_pos (Or.inr (Or.inr (by omega)))]
        exact e6
/-- even and odd numbers -/
def s_lst (x : UInt64) : Int := fd_ce (wr_y x)
def sp_even (x : UInt64) : gp_C := if -4845873199050653696 < fd_k x ∧ fd_k x < 4845873199050653696 then gc_n (FP.l2d (gJ (s_sg x * (s_lst x + s_lst x % 2)))) else gc_n x
def sp_odd (x : UInt64) : gp_C := if -4845873199050653696 < fd_k x ∧ fd_k x < 4845873199050653696 then gc_n (FP.l2d (gJ (if fd_k x < 0 then -(s_lst x + 1 - s_lst x % 2) else s_lst x + 1 - s_lst x % 2))) else gc_num (FP.dadd x (FP.i2d (gN (s_sg x))))
theorem wr_y_b {x : UInt64} (hx : fd_n x) (hb : -4845873199050653696 < fd_k x ∧ fd_k x < 4845873199050653696) : -4845873199050653696 < fd_k (wr_y x) ∧ fd_k (wr_y x) < 4845873199050653696 := by
  rw [(wr_yn hx).2]
  split <;> omega
theorem s_lst_b {x : UInt64} (hx : fd_n x) (hb : -4845873199050653696 < fd_k x ∧ fd_k x < 4845873199050653696) : 0 ≤ s_lst x ∧ s_lst x ≤ 9007199254740991 ∧ s_ce (wr_y x) = FP.l2d (gJ (s_lst x)) ∧ FP.d2l (s_ce (wr_y x)) = gJ (s_lst x) := by
  have hy := (wr_yn hx).1
  have hyb := wr_y_b hx hb
  obtain ⟨c1, c2⟩ := fd_ce_b hy hyb
  have e : s_ce (wr_y x) = FP.l2d (gJ (s_lst x)) := if_pos hyb
  have h0 : 0 ≤ s_lst x := by
    have hk := (fd_kv_0 hy).2.2.2.mp (wr_y_k hx)
    obtain ⟨t1, t2, t3⟩ := fd_T_pos hk
    have := @fd_ce_T (wr_y x)
    unfold s_lst
    rw [this]
    split <;> omega
  refine ⟨h0, c2, e, ?_⟩
  have hi := fd_l2d (z := s_lst x) (by omega) (by unfold s_lst; omega)
  have hiT := hi.T
  rw [e]
  have := (fd_d2l hi.n (by rw [hiT]; omega) (by rw [hiT]; unfold s_lst; omega)).1
  rw [this, hiT]
theorem gJ_mod2 (z : Int) (h0 : 0 ≤ z) (h1 : z < 9223372036854775807) : gJ z - gJ z / (2 : Int64) * (2 : Int64) = gJ (z % 2) := by
  rw [show (2 : Int64) = gJ 2 from rfl, gJ_div _ _ h0 (by omega) (by decide) (by decide), gJ_mul, gJ_sub]
  congr 1
  omega
theorem s_sg_b (x : UInt64) : -1 ≤ s_sg x ∧ s_sg x ≤ 1 := by
  unfold s_sg
  split
  · decide
  · split <;> decide
theorem m_even (hc : gp_cs b h) {x : UInt64} (hx : fd_f x) : vR b h S (f_Am_even x (gv_ov h S)) (sp_even x) := by
  unfold f_Am_even sp_even
  simp only [ca_id]
  rw [m_within hx.n, gk_ca_some]
  by_cases hb : -4845873199050653696 < fd_k x ∧ fd_k x < 4845873199050653696
  · obtain ⟨l1, l2, l3, l4⟩ := s_lst_b hx.n hb
    obtain ⟨g1, g2⟩ := s_sg_b x
    have hy := (wr_yn hx.n).1
    have hm2 : 0 ≤ s_lst x % 2 ∧ s_lst x % 2 < 2 := ⟨Int.emod_nonneg _ (by decide), Int.emod_lt_of_pos _ (by decide)⟩
    have i1 := fd_i2d (z := s_sg x) (by omega) (by omega)
    have i2 := fd_l2d (z := s_lst x + s_lst x % 2) (by omega) (by omega)
    have hbd : (s_sg x * (s_lst x + s_lst x % 2)).natAbs ≤ 9007199254740992 := by
      have : s_sg x = -1 ∨ s_sg x = 0 ∨ s_sg x = 1 := by omega
      rcases this with q | q | q <;> rw [q] <;> omega
    have i3 := i1.mul i2 hbd
    have i4 := fd_l2d (z := s_sg x * (s_lst x + s_lst x % 2)) (by omega) (by omega)
    rw [if_pos hb, if_neg (by decide), if_pos hb, m_sizeOf hx.n, gk_ca_some, m_ceiling hy, gk_ca_some, l4, gk_let_eq, m_sign hx.n, gk_ca_some, gJ_mod2 _ l1 (by omega), gJ_add, fd_dop i3.n]
    have := vr_n (S := S) hc i3.f
    rw [gc_n_c (i3.c i4)] at this
    exact this
  · rw [if_neg hb, if_pos rfl, if_neg hb]
    exact vr_n hc hx
theorem m_odd (hc : gp_cs b h) {x : UInt64} (hx : fd_f x) : vR b h S (f_Am_odd x (gv_ov h S)) (sp_odd x) := by
  unfold f_Am_odd f_Am_odd_b54 sp_odd
  simp only [ca_id]
  rw [m_within hx.n, gk_ca_some]
  by_cases hb : -4845873199050653696 < fd_k x ∧ fd_k x < 4845873199050653696
  · obtain ⟨l1, l2, l3, l4⟩ := s_lst_b hx.n hb
    have hy := (wr_yn hx.n).1
    have hm2 : 0 ≤ s_lst x % 2 ∧ s_lst x % 2 < 2 := ⟨Int.emod_nonneg _ (by decide), Int.emod_lt_of_pos _ (by decide)⟩
    have i2 := fd_l2d (z := s_lst x + 1 - s_lst x % 2) (by omega) (by omega)
    rw [if_pos hb, if_neg (by decide), if_pos hb, m_sizeOf hx.n, gk_ca_some, m_ceiling hy, gk_ca_some, l4, gk_let_eq, gJ_mod2 _ l1 (by omega), show (1 : Int64) = gJ 1 from rfl, gJ_add, gJ_sub, gk_let_eq, fi_ge _ _ hx.n fd_0_n, fd_k0]
    by_cases z : fd_k x < 0
    · have i4 := fd_l2d (z := -(s_lst x + 1 - s_lst x % 2)) (by omega) (by omega)
      obtain ⟨a1, a2, a3⟩ := fd_neg i2.n
      have i3 := fd_i0.sub i2 (by omega)
      rw [if_neg (show ¬ 0 ≤ fd_k x by omega), if_pos z, fd_dop i3.n]
      have := vr_n (S := S) hc i3.f
      rw [show (0 : Int) - (s_lst x + 1 - s_lst x % 2) = -(s_lst x + 1 - s_lst x % 2) from by omega] at i3
      rw [gc_n_c (i3.c i4)] at this
      exact this
    · rw [if_pos (show 0 ≤ fd_k x by omega), if_neg z]
      exact vr_n hc i2.f
  · obtain ⟨g1, g2⟩ := s_sg_b x
    have i1 := fd_i2d (z := s_sg x) (by omega) (by omega)
    have ha := fd_add_n hx i1.f
    rw [if_neg hb, if_pos rfl, if_neg hb, m_sign hx.n, gk_ca_some, fd_dop ha]
    exact vr_num hc ha
def sp_tw (y q : UInt64) (up : Bool) : gp_C := if -9218868437227405311 ≤ fd_k q ∧ fd_k q ≤ 9218868437227405311 then gc_num (FP.dmul y (if up = true then s_ce q else s_fl q)) else gc_e 6
theorem m_timesWhole (hc : gp_cs b h) {y q : UInt64} (hy : fd_f y) (hq : fd_n q) (up : Bool) : vR b h S (f_Am_timesWhole y q (gB up) (gv_ov h S)) (sp_tw y q up) := by
  unfold f_Am_timesWhole f_Am_timesWhole_b30 sp_tw
  simp only [ca_id]
  rw [v_fin hq, gk_ca_some]
  by_cases f1 : fin q
  · have hf := (fin_f hq).mp f1
    rw [if_pos f1, if_neg (by decide), if_pos f1, ite_B]
    cases up
    · have hm := fd_mul_n hy (s_fl_f hf)
      rw [if_neg (by decide), m_floor hq, gk_ca_some, fd_dop hm]
      exact vr_num hc hm
    · have hm := fd_mul_n hy (s_ce_f hf)
      rw [if_pos rfl, m_ceiling hq, gk_ca_some, fd_dop hm]
      exact vr_num hc hm
  · rw [if_neg f1, if_pos rfl, if_neg f1]
    exact vr_err hc 6 (by decide) (by decide)
def sp_cei (x y : UInt64) : gp_C := if fd_k y = 0 then gc_n 0 else if 0 < fd_k x ∧ fd_k y < 0 then gc_e 6 else sp_tw y (FP.ddiv x y) true
def sp_flo (x y : UInt64) : gp_C := if fd_k y = 0 then (if fd_k x = 0 then gc_n 0 else gc_e 2) else if 0 < fd_k x ∧ fd_k y < 0 then gc_e 6 else sp_tw y (FP.ddiv x y) false
theorem m_ceilingTo (hc : gp_cs b h) {x y : UInt64} (hx : fd_f x) (hy : fd_f y) : vR b h S (f_Am_ceilingTo x y (gv_ov h S)) (sp_cei x y) := by
  unfold f_Am_ceilingTo f_Am_ceilingTo_b31 f_Am_ceilingTo_b39 sp_cei
  simp only [ca_id]
  rw [fi_eq _ _ hy.n fd_0_n, fi_le _ _ hx.n fd_0_n, fi_ge _ _ hy.n fd_0_n, fd_k0]
  by_cases z : fd_k y = 0
  · rw [if_pos z, if_pos z]
    exact vr_n hc fd_f0
  · have hd := fd_ddiv hx.n hy z
    have ht := m_timesWhole (S := S) hc hy hd true
    rw [if_neg z, if_neg z, fd_dop hd]
    by_cases z1 : fd_k x ≤ 0
    · rw [if_pos z1, if_neg (show ¬ (0 < fd_k x ∧ fd_k y < 0) by omega)]
      exact ht
    · rw [if_neg z1]
      by_cases z2 : 0 ≤ fd_k y
      · rw [if_pos z2, if_neg (show ¬ (0 < fd_k x ∧ fd_k y < 0) by omega)]
        exact ht
      · rw [if_neg z2, if_pos (show 0 < fd_k x ∧ fd_k y < 0 by omega)]
        exact vr_err hc 6 (by decide) (by decide)
theorem m_floorTo (hc : gp_cs b h) {x y : UInt64} (hx : fd_f x) (hy : fd_f y) : vR b h S (f_Am_floorTo x y (gv_ov h S)) (sp_flo x y) := by
  unfold f_Am_floorTo f_Am_floorTo_b44 f_Am_floorTo_b52 f_Am_floorTo_b23 sp_flo
  simp only [ca_id]
  rw [fi_eq _ _ hy.n fd_0_n, fi_eq _ _ hx.n fd_0_n, fi_le _ _ hx.n fd_0_n, fi_ge _ _ hy.n fd_0_n, fd_k0]
  by_cases z : fd_k y = 0
  · rw [if_pos z, if_pos z]
    by_cases z1 : fd_k x = 0
    · rw [if_pos z1, if_pos z1]
      exact vr_n hc fd_f0
    · rw [if_neg z1, if_neg z1]
      exact vr_err hc 2 (by decide) (by decide)
  · have hd := fd_ddiv hx.n hy z
    have ht := m_timesWhole (S := S) hc hy hd false
    rw [if_neg z, if_neg z, fd_dop hd]
    by_cases z1 : fd_k x ≤ 0
    · rw [if_pos z1, if_neg (show ¬ (0 < fd_k x ∧ fd_k y < 0) by omega)]
      exact ht
    · rw [if_neg z1]
      by_cases z2 : 0 ≤ fd_k y
      · rw [if_pos z2, if_neg (show ¬ (0 < fd_k x ∧ fd_k y < 0) by omega)]
        exact ht
      · rw [if_neg z2, if_pos (show 0 < fd_k x ∧ fd_k y < 0 by omega)]
        exact vr_err hc 6 (by decide) (by decide)
/-- to places -/
def s_sca (x : UInt64) (p : Int) : UInt64 := if p < 0 then FP.ddiv (wr_y x) (fd_t (-p).toNat) else FP.dmul (wr_y x) (fd_t p.toNat)
def s_uns (w : UInt64) (p : Int) : UInt64 := if p < 0 then FP.dmul w (fd_t (-p).toNat) else FP.ddiv w (fd_t p.toNat)
def sp_pla (x : UInt64) (p : Int) (a : UInt64) : gp_C :=
  if p < -9 ∨ 9 < p then gc_e 6
  else if -9218868437227405311 ≤ fd_k (s_sca x p) ∧ fd_k (s_sca x p) ≤ 9218868437227405311 then gc_num (if fd_k x < 0 then FP.dsub 0 (s_uns (s_tr (FP.dadd (s_sca x p) a)) p) else s_uns (s_tr (FP.dadd (s_sca x p) a)) p)
  else gc_e 6
theorem s_sca_n {x : UInt64} (hx : fd_f x) (p : Int) (h1 : -9 ≤ p) (h2 : p ≤ 9) : fd_n (s_sca x p) := by
  unfold s_sca
  split
  · obtain ⟨t1, t2, t3⟩ := fd_tn (-p).toNat (by omega)
    exact fd_ddiv (wr_y_f hx).n t1 t3
  · obtain ⟨t1, t2, t3⟩ := fd_tn p.toNat (by omega)
    exact fd_mul_n (wr_y_f hx) t1
theorem s_uns_n {w : UInt64} (hw : fd_n w) (p : Int) (h1 : -9 ≤ p) (h2 : p ≤ 9) : fd_n (s_uns w p) := by
  unfold s_uns
  split
  · obtain ⟨t1, t2, t3⟩ := fd_tn (-p).toNat (by omega)
    exact fd_mul_n' hw t1 t3
  · obtain ⟨t1, t2, t3⟩ := fd_tn p.toNat (by omega)
    exact fd_ddiv hw t1 t3
theorem m_toPlaces (hc : gp_cs b h) {x a : UInt64} (hx : fd_f x) (ha : fd_f a) (p : Int) (hp : -9223372036854775808 ≤ p) (hp2 : p < 9223372036854775808) : vR b h S (f_Am_toPlaces x (gJ p) a (gv_ov h S)) (sp_pla x p a) := by
  have e6 := vr_err (S := S) hc 6 (by decide) (by decide)
  unfold f_Am_toPlaces f_Am_toPlaces_b16 f_Am_toPlaces_b34 sp_pla
  simp only [ca_id]
  rw [show (-9 : Int64) = gJ (-9) from rfl, show (9 : Int64) = gJ 9 from rfl, show (0 : Int64) = gJ 0 from rfl, jte_lt _ _ _ _ hp hp2 (by decide) (by decide), jte_le _ _ _ _ hp hp2 (by decide) (by decide), jte_ge _ _ _ _ hp hp2 (by decide) (by decide)]
  by_cases c1 : p < -9
  · rw [if_pos c1, if_pos (Or.inl c1)]
    exact e6
  · rw [if_neg c1]
    by_cases c2 : p ≤ 9
    · have hg : ¬ (p < -9 ∨ 9 < p) := by omega
      have hsn := s_sca_n hx p (by omega) c2
      have b62 : ∀ sc, sc = (if p < 0 then fd_t (-p).toNat else fd_t p.toNat) → vR b h S (f_Am_toPlaces_b62 x (gJ p) a sc (s_sca x p) (gv_ov h S)) (if -9218868437227405311 ≤ fd_k (s_sca x p) ∧ fd_k (s_sca x p) ≤ 9218868437227405311 then gc_num (if fd_k x < 0 then FP.dsub 0 (s_uns (s_tr (FP.dadd (s_sca x p) a)) p) else s_uns (s_tr (FP.dadd (s_sca x p) a)) p) else gc_e 6) := by
        intro sc hsc
        unfold f_Am_toPlaces_b62 f_Am_toPlaces_b107 f_Am_toPlaces_b124
        simp only [ca_id]
        rw [v_fin hsn, gk_ca_some]
        by_cases f1 : fin (s_sca x p)
        · have had := fd_add_n ((fin_f hsn).mp f1) ha
          have htr := s_tr_n had
          have hun := s_uns_n htr p (by omega) c2
          have hend : vR b h S (if 0 ≤ (Op.cmpValue (FP.dcmp x 0) .g) then f_Va_ofNumber (s_uns (s_tr (FP.dadd (s_sca x p) a)) p) (gv_ov h S) else gk_dop (FP.dsub 0 (s_uns (s_tr (FP.dadd (s_sca x p) a)) p)) fun x1 => f_Va_ofNumber x1 (gv_ov h S)) (gc_num (if fd_k x < 0 then FP.dsub 0 (s_uns (s_tr (FP.dadd (s_sca x p) a)) p) else s_uns (s_tr (FP.dadd (s_sca x p) a)) p)) := by
            rw [fi_ge _ _ hx.n fd_0_n, fd_k0]
            by_cases z : fd_k x < 0
            · rw [if_neg (show ¬ 0 ≤ fd_k x by omega), if_pos z, fd_dop (fd_neg hun).1]
              exact vr_num hc (fd_neg hun).1
            · rw [if_pos (show 0 ≤ fd_k x by omega), if_neg z]
              exact vr_num hc hun
          rw [if_pos f1, if_neg (by decide), if_pos f1, fd_dop had, m_whole had, gk_ca_some, show (0 : Int64) = gJ 0 from rfl, jte_ge _ _ _ _ hp hp2 (by decide) (by decide)]
          by_cases z : p < 0
          · have e : FP.dmul (s_tr (FP.dadd (s_sca x p) a)) sc = s_uns (s_tr (FP.dadd (s_sca x p) a)) p := by
              unfold s_uns
              rw [if_pos z, hsc, if_pos z]
            rw [if_neg (show ¬ 0 ≤ p by omega), e, fd_dop hun]
            exact hend
          · have e : FP.ddiv (s_tr (FP.dadd (s_sca x p) a)) sc = s_uns (s_tr (FP.dadd (s_sca x p) a)) p := by
              unfold s_uns
              rw [if_neg z, hsc, if_neg z]
            rw [if_pos (show 0 ≤ p by omega), e, fd_dop hun]
            exact hend
        · rw [if_neg f1, if_pos rfl, if_neg f1]
          exact e6
      rw [if_pos c2, if_neg hg]
      by_cases z : p < 0
      · have e1 : -gJ p = gJ (((-p).toNat : Nat) : Int) := by
          have : -gJ p = gJ 0 - gJ p := by
            rw [show gJ 0 = 0 from rfl]
            exact (Int64.zero_sub _).symm
          rw [this, gJ_sub]
          congr 1
          omega
        have e2 : FP.ddiv (wr_y x) (fd_t (-p).toNat) = s_sca x p := by
          unfold s_sca
          rw [if_pos z]
        rw [if_neg (show ¬ 0 ≤ p by omega), e1, n_tenTo _ (by omega), gk_ca_some, jte_ge _ _ _ _ hp hp2 (by decide) (by decide), if_neg (show ¬ 0 ≤ p by omega), m_sizeOf hx.n, gk_ca_some, e2, fd_dop hsn]
        exact b62 _ (if_pos z).symm
      · have e1 : gJ p = gJ ((p.toNat : Nat) : Int) := by
          congr 1
          omega
        have e2 : FP.dmul (wr_y x) (fd_t p.toNat) = s_sca x p := by
          unfold s_sca
          rw [if_neg z]
        have e3 := n_tenTo p.toNat (by omega) (gv_ov h S)
        rw [← e1] at e3
        rw [if_pos (show 0 ≤ p by omega), e3, gk_ca_some, jte_ge _ _ _ _ hp hp2 (by decide) (by decide), if_pos (show 0 ≤ p by omega), m_sizeOf hx.n, gk_ca_some, e2, fd_dop hsn]
        exact b62 _ (if_neg z).symm
    · rw [if_neg c2, if_pos (show p < -9 ∨ 9 < p from by omega)]
      exact e6
end AR
