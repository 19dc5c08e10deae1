/-! THE PURE PART: doubles, their values -/
def fd_P : Int := (FP.Core.one64 : Int)
theorem fd_P_pos : 0 < fd_P := by
  have := FP.Core.one64_pos
  unfold fd_P
  omega
theorem fd_kvc {a b : UInt64} (ha : fd_n a) (hb : fd_n b) : compare (fd_k a) (fd_k b) = compare (fd_v a) (fd_v b) := by
  have e1 := FP.Core.dcmp_key ha hb
  have e2 := FP.Core.dcmp_zval ha hb
  rw [e1] at e2
  injection e2
theorem fd_kv_lt {a b : UInt64} (ha : fd_n a) (hb : fd_n b) : fd_k a < fd_k b ↔ fd_v a < fd_v b := by
  rw [← FP.Core.compare_lt_iff, ← FP.Core.compare_lt_iff, fd_kvc ha hb]
theorem fd_kv_eq {a b : UInt64} (ha : fd_n a) (hb : fd_n b) : fd_k a = fd_k b ↔ fd_v a = fd_v b := by
  rw [← FP.Core.compare_eq_iff, ← FP.Core.compare_eq_iff, fd_kvc ha hb]
theorem fd_kv_le {a b : UInt64} (ha : fd_n a) (hb : fd_n b) : fd_k a ≤ fd_k b ↔ fd_v a ≤ fd_v b := by
  have := fd_kv_lt hb ha
  omega
theorem fd_v0 : fd_v 0 = 0 := FP.Core.zval64_zero
theorem fd_kv_0 {a : UInt64} (ha : fd_n a) : (fd_k a = 0 ↔ fd_v a = 0) ∧ (fd_k a < 0 ↔ fd_v a < 0) ∧ (0 < fd_k a ↔ 0 < fd_v a) ∧ (0 ≤ fd_k a ↔ 0 ≤ fd_v a) := by
  have h1 := fd_kv_eq ha fd_0_n
  have h2 := fd_kv_lt ha fd_0_n
  have h3 := fd_kv_lt fd_0_n ha
  rw [fd_k0, fd_v0] at h1 h2 h3
  exact ⟨h1, h2, h3, by omega⟩
theorem fd_53_v : fd_v 0x4340000000000000 = 9007199254740992 * fd_P := FP.Core.zval_two53
theorem fd_m53_v : fd_v 0xc340000000000000 = -(9007199254740992 * fd_P) := FP.Core.zval_two53n
/-- below 2^53 -/
theorem fd_in_v {a : UInt64} (ha : fd_n a) : (-4845873199050653696 < fd_k a ∧ fd_k a < 4845873199050653696) ↔ -(9007199254740992 * fd_P) < fd_v a ∧ fd_v a < 9007199254740992 * fd_P := by
  have h1 := fd_kv_lt ha fd_53_n
  have h2 := fd_kv_lt fd_m53_n ha
  rw [fd_53_k, fd_53_v] at h1
  rw [fd_m53_k, fd_m53_v] at h2
  rw [h1, h2]
/-- cut off towards 0 -/
def fd_T (a : UInt64) : Int := (fd_v a).tdiv fd_P
theorem fd_sdiv (s : Bool) (m : Nat) : FP.Core.signed s (m / FP.Core.one64) = (FP.Core.signed s m).tdiv fd_P := by
  unfold fd_P
  cases s
  · rfl
  · show -((m / FP.Core.one64 : Nat) : Int) = (-(m : Int)).tdiv _
    rw [Int.neg_tdiv]
    rfl
theorem fd_d2l {a : UInt64} (ha : fd_n a) (h1 : -9223372036854775808 ≤ fd_T a) (h2 : fd_T a < 9223372036854775808) : FP.d2l a = gJ (fd_T a) ∧ (FP.d2l a).toInt = fd_T a := by
  have e : (FP.d2l a).toInt = fd_T a := by
    have := FP.Core.d2l_val ha
    rw [fd_sdiv] at this
    have h3 : (FP.d2l a).toInt = max (-2 ^ 63) (min (2 ^ 63 - 1) (fd_T a)) := this
    omega
  refine ⟨?_, e⟩
  rw [← e, gJ_self]
theorem fd_d2i {a : UInt64} (ha : fd_n a) (h1 : -2147483648 ≤ fd_T a) (h2 : fd_T a < 2147483648) : FP.d2i a = gN (fd_T a) := by
  have e : (FP.d2i a).toInt = fd_T a := by
    have := FP.Core.d2i_val ha
    rw [fd_sdiv] at this
    have h3 : (FP.d2i a).toInt = max (-2 ^ 31) (min (2 ^ 31 - 1) (fd_T a)) := this
    omega
  unfold gN
  rw [← e, Int32.ofInt_toInt]
theorem fd_T_pos {a : UInt64} (h : 0 ≤ fd_v a) : 0 ≤ fd_T a ∧ fd_T a * fd_P ≤ fd_v a ∧ fd_v a < (fd_T a + 1) * fd_P := by
  have hP := fd_P_pos
  unfold fd_T
  rw [Int.tdiv_eq_ediv_of_nonneg h]
  refine ⟨Int.ediv_nonneg h (by omega), Int.ediv_mul_le _ (by omega), ?_⟩
  have := Int.lt_ediv_add_one_mul_self (fd_v a) hP
  exact this
theorem fd_T_neg {a : UInt64} (h : fd_v a ≤ 0) : fd_T a ≤ 0 ∧ fd_v a ≤ fd_T a * fd_P ∧ (fd_T a - 1) * fd_P < fd_v a := by
  have hP := fd_P_pos
  have e : fd_T a = -((-fd_v a) / fd_P) := by
    unfold fd_T
    rw [← Int.neg_neg (fd_v a), Int.neg_tdiv, Int.tdiv_eq_ediv_of_nonneg (by omega), Int.neg_neg]
  have h1 : 0 ≤ (-fd_v a) / fd_P := Int.ediv_nonneg (by omega) (by omega)
  have h2 := Int.ediv_mul_le (-fd_v a) (show fd_P ≠ 0 by omega)
  have h3 := Int.lt_ediv_add_one_mul_self (-fd_v a) hP
  rw [e]
  refine ⟨by omega, ?_, ?_⟩
  · rw [Int.neg_mul]
    omega
  · rw [show -(-fd_v a / fd_P) - 1 = -(-fd_v a / fd_P + 1) from by omega, Int.neg_mul]
    omega
theorem fd_T_lt {a : UInt64} {z : Int} (hz : 0 ≤ z) (h : fd_v a < z * fd_P) : fd_T a < z ∨ z = 0 := by
  have hP := fd_P_pos
  by_cases h0 : 0 ≤ fd_v a
  · obtain ⟨t1, t2, t3⟩ := fd_T_pos h0
    left
    have : fd_T a * fd_P < z * fd_P := by omega
    exact Int.lt_of_mul_lt_mul_right this (by omega)
  · obtain ⟨t1, t2, t3⟩ := fd_T_neg (a := a) (by omega)
    omega
theorem fd_T_gt {a : UInt64} {z : Int} (hz : 0 ≤ z) (h : -(z * fd_P) < fd_v a) : -z < fd_T a ∨ z = 0 := by
  have hP := fd_P_pos
  by_cases h0 : 0 ≤ fd_v a
  · obtain ⟨t1, t2, t3⟩ := fd_T_pos h0
    omega
  · obtain ⟨t1, t2, t3⟩ := fd_T_neg (a := a) (by omega)
    left
    have : -z * fd_P < fd_T a * fd_P := by rw [Int.neg_mul]; omega
    exact Int.lt_of_mul_lt_mul_right this (by omega)
theorem fd_in_T {a : UInt64} (ha : fd_n a) (h : -4845873199050653696 < fd_k a ∧ fd_k a < 4845873199050653696) : -9007199254740992 < fd_T a ∧ fd_T a < 9007199254740992 := by
  obtain ⟨h1, h2⟩ := (fd_in_v ha).mp h
  have a1 := fd_T_lt (by decide) h2
  have a2 := fd_T_gt (z := 9007199254740992) (by decide) h1
  omega
/-- the double of a whole number -/
def fd_i (z : Int) (a : UInt64) : Prop := FP.Core.DInt z a
theorem fd_i.v {z : Int} {a : UInt64} (h : fd_i z a) : fd_v a = z * fd_P := FP.Core.DInt_zval h
theorem fd_i.n {z : Int} {a : UInt64} (h : fd_i z a) : fd_n a := FP.Core.DInt_ne_nan h
theorem fd_l2d {z : Int} (h1 : -9007199254740992 ≤ z) (h2 : z ≤ 9007199254740992) : fd_i z (FP.l2d (gJ z)) := by
  have e := gJ_toInt z (by omega) (by omega)
  have := FP.Core.l2d_int (a := gJ z) (by rw [e]; omega)
  rw [e] at this
  exact this
theorem fd_i2d {z : Int} (h1 : -2147483648 ≤ z) (h2 : z < 2147483648) : fd_i z (FP.i2d (gN z)) := by
  have e := gN_toInt z h1 h2
  have := FP.Core.i2d_int (gN z)
  rw [e] at this
  exact this
theorem fd_i2dI {n : Nat} (h : n < 2147483648) : fd_i n (FP.i2d (gI n)) := by
  rw [gI_N]
  exact fd_i2d (by omega) (by omega)
theorem fd_i.c {z : Int} {a b : UInt64} (ha : fd_i z a) (hb : fd_i z b) : fd_c a = fd_c b := fd_k_c ((fd_kv_eq ha.n hb.n).mpr (by rw [ha.v, hb.v]))
theorem fd_i.T {z : Int} {a : UInt64} (h : fd_i z a) : fd_T a = z := by
  unfold fd_T
  rw [h.v, Int.mul_tdiv_cancel _ (by have := fd_P_pos; omega)]
theorem fd_mulP {x y : Int} : x * fd_P < y * fd_P ↔ x < y := ⟨fun h => Int.lt_of_mul_lt_mul_right h (by have := fd_P_pos; omega), fun h => Int.mul_lt_mul_of_pos_right h fd_P_pos⟩
theorem fd_mulPe {x y : Int} : x * fd_P = y * fd_P ↔ x = y := by
  have h1 := @fd_mulP x y
  have h2 := @fd_mulP y x
  omega
theorem fd_i.lt {y z : Int} {a b : UInt64} (ha : fd_i y a) (hb : fd_i z b) : fd_k a < fd_k b ↔ y < z := by
  rw [fd_kv_lt ha.n hb.n, ha.v, hb.v, fd_mulP]
theorem fd_i.eq {y z : Int} {a b : UInt64} (ha : fd_i y a) (hb : fd_i z b) : fd_k a = fd_k b ↔ y = z := by
  rw [fd_kv_eq ha.n hb.n, ha.v, hb.v, fd_mulPe]
theorem fd_i.f {z : Int} {a : UInt64} (h : fd_i z a) : fd_f a := by
  unfold fd_i FP.Core.DInt FP.Core.Whole at h
  unfold fd_f FP.Core.DFin
  split at h
  · rename_i s c q e
    exact ⟨s, c, q, e⟩
  · exact h.elim
theorem fd_i.add {y z : Int} {a b : UInt64} (ha : fd_i y a) (hb : fd_i z b) (h : (y + z).natAbs ≤ 9007199254740992) : fd_i (y + z) (FP.dadd a b) := FP.Core.dadd_int ha hb h
theorem fd_i.sub {y z : Int} {a b : UInt64} (ha : fd_i y a) (hb : fd_i z b) (h : (y - z).natAbs ≤ 9007199254740992) : fd_i (y - z) (FP.dsub a b) := FP.Core.dsub_int ha hb h
theorem fd_i.mul {y z : Int} {a b : UInt64} (ha : fd_i y a) (hb : fd_i z b) (h : (y * z).natAbs ≤ 9007199254740992) : fd_i (y * z) (FP.dmul a b) := FP.Core.dmul_int ha hb h
theorem fd_i0 : fd_i 0 0 := by
  have := fd_i2d (z := 0) (by decide) (by decide)
  have e : FP.i2d (gN 0) = 0 := (by decide +kernel)
  rw [e] at this
  exact this
theorem fd_i1 : fd_i 1 0x3ff0000000000000 := FP.Core.dint_one
/-- finite doubles give numbers -/
theorem fd_add_n {a b : UInt64} (ha : fd_f a) (hb : fd_f b) : fd_n (FP.dadd a b) := by
  refine (FP.Core.notNaN_iff _).mp (Bool.eq_false_iff.mpr fun z => ?_)
  obtain ⟨s, c, q, e⟩ := ha
  obtain ⟨t, d, r, e2⟩ := hb
  rcases (FP.Core.dadd_nan_iff a b).mp z with w | w | ⟨w, w1, w2⟩
  · rw [e] at w; cases w
  · rw [e2] at w; cases w
  · rw [e] at w1; cases w1
theorem fd_sub_n {a b : UInt64} (ha : fd_f a) (hb : fd_f b) : fd_n (FP.dsub a b) := by
  refine (FP.Core.notNaN_iff _).mp (Bool.eq_false_iff.mpr fun z => ?_)
  obtain ⟨s, c, q, e⟩ := ha
  obtain ⟨t, d, r, e2⟩ := hb
  rcases (FP.Core.dsub_nan_iff a b).mp z with w | w | ⟨w, w1, w2⟩
  · rw [e] at w; cases w
  · rw [e2] at w; cases w
  · rw [e] at w1; cases w1
theorem fd_mul_n {a b : UInt64} (ha : fd_f a) (hb : fd_f b) : fd_n (FP.dmul a b) := by
  refine (FP.Core.notNaN_iff _).mp (Bool.eq_false_iff.mpr fun z => ?_)
  obtain ⟨s, c, q, e⟩ := ha
  obtain ⟨t, d, r, e2⟩ := hb
  rcases (FP.Core.dmul_nan_iff a b).mp z with w | w | ⟨w, w1, w2⟩ | ⟨w, w1, w2⟩
  · rw [e] at w; cases w
  · rw [e2] at w; cases w
  · rw [e] at w1; cases w1
  · rw [e2] at w2; cases w2
/-- endless or finite times a finite number that is not 0 -/
theorem fd_mul_n' {a b : UInt64} (ha : fd_n a) (hb : fd_f b) (hz : fd_k b ≠ 0) : fd_n (FP.dmul a b) := by
  refine (FP.Core.notNaN_iff _).mp (Bool.eq_false_iff.mpr fun z => ?_)
  obtain ⟨t, d, r, e2⟩ := hb
  rcases (FP.Core.dmul_nan_iff a b).mp z with w | w | ⟨w, w1, w2⟩ | ⟨w, w1, w2⟩
  · exact ha w
  · rw [e2] at w; cases w
  · rw [FP.Core.zero_bits2] at w2
    apply hz
    have := b.toNat_lt
    unfold fd_k FP.Core.dkey
    split <;> omega
  · rw [e2] at w2; cases w2
/-- the sign changed -/
theorem fd_dneg {x : UInt64} (h : fd_n x) : fd_n (FP.dneg x) ∧ fd_k (FP.dneg x) = -fd_k x ∧ fd_v (FP.dneg x) = -fd_v x ∧ (fd_f x → fd_f (FP.dneg x)) := by
  have hx := x.toNat_lt
  have hn : fd_n (FP.dneg x) := by
    unfold fd_n
    rw [FP.val64_dneg]
    exact FP.Core.negate_ne_nan h
  have hb : (FP.dneg x).toNat = x.toNat ^^^ 2 ^ 63 := by
    unfold FP.dneg
    rw [UInt64.toNat_xor]
    rfl
  obtain ⟨h1, h2⟩ := FP.xor_top (a := x.toNat) (k := 63) (by omega)
  refine ⟨hn, ?_, ?_, fun hf => ?_⟩
  · unfold fd_k FP.Core.dkey
    rw [hb]
    by_cases w : x.toNat < 2 ^ 63
    · rw [h1 w, if_pos (by omega), if_neg (by omega)]
      omega
    · rw [h2 (by omega), if_neg (by omega), if_pos (by omega)]
      omega
  · unfold fd_v
    rw [FP.val64_dneg, FP.Core.zval_negate]
  · obtain ⟨s, c, q, e⟩ := hf
    exact ⟨!s, c, q, by rw [FP.val64_dneg, e]; rfl⟩
theorem fd_neg_eq {x : UInt64} (h : fd_n x) (hz : fd_k x ≠ 0) : FP.dsub 0 x = FP.dneg x := by
  obtain ⟨a1, a2, a3⟩ := fd_neg h
  obtain ⟨b1, b2, b3, b4⟩ := fd_dneg h
  exact fd_k_inj (by rw [a2, b2]) (by rw [a2]; omega)
theorem fd_neg_c {x : UInt64} (h : fd_n x) : fd_c (FP.dsub 0 x) = fd_c (FP.dneg x) := by
  obtain ⟨a1, a2, a3⟩ := fd_neg h
  obtain ⟨b1, b2, b3, b4⟩ := fd_dneg h
  exact fd_k_c (by rw [a2, b2])
/-- what is not below 0 by its sign -/
theorem fd_p.vf {a : UInt64} (h : fd_p a) (hf : fd_f a) : ∃ c q, FP.Core.val64 a = .fin false c q := by
  obtain ⟨s, c, q, e⟩ := hf
  have s1 := FP.Core.sgn_bits h.1
  have h2 := h.2
  rw [e, decide_eq_false (by omega)] at s1
  have : s = false := s1
  exact ⟨c, q, by rw [e, this]⟩
theorem fd_p_of {a : UInt64} (hn : fd_n a) (h : FP.Core.sgn (FP.Core.val64 a) = false) : fd_p a := by
  refine ⟨hn, ?_⟩
  have s1 := FP.Core.sgn_bits hn
  rw [h] at s1
  have := of_decide_eq_false s1.symm
  omega
theorem fd_mulp {a b : UInt64} (ha : fd_p a) (fa : fd_f a) (hb : fd_p b) (fb : fd_f b) : fd_p (FP.dmul a b) := by
  obtain ⟨c, q, e1⟩ := ha.vf fa
  obtain ⟨d, r, e2⟩ := hb.vf fb
  refine fd_p_of (fd_mul_n fa fb) ?_
  show FP.Core.sgn (FP.Core.val64 (FP.Core.dmul a b)) = false
  rw [FP.Core.val64_dmul, e1, e2]
  show FP.Core.sgn (FP.Core.roundRatio _ _ _ _ _) = false
  rw [FP.Core.sgn_roundRatio]
  rfl
theorem fd_addp {a b : UInt64} (ha : fd_p a) (fa : fd_f a) (hb : fd_p b) (fb : fd_f b) : fd_p (FP.dadd a b) := by
  obtain ⟨c, q, e1⟩ := ha.vf fa
  obtain ⟨d, r, e2⟩ := hb.vf fb
  refine fd_p_of (fd_add_n fa fb) ?_
  show FP.Core.sgn (FP.Core.val64 (FP.Core.dadd a b)) = false
  rw [FP.Core.val64_dadd, e1, e2]
  show FP.Core.sgn (FP.Core.roundRatio _ (FP.Core.sumSign false false (FP.Core.sumUnits false c q false d r (min q r))) _ _ _) = false
  rw [FP.Core.sgn_roundRatio]
  have hv : 0 ≤ FP.Core.sumUnits false c q false d r (min q r) := by
    unfold FP.Core.sumUnits FP.Core.signed
    simp only [Bool.false_eq_true, if_false]
    omega
  unfold FP.Core.sumSign
  split
  · rfl
  · exact decide_eq_false (by omega)
/-- of a number not below 0, by its bits -/
theorem fd_k_p {a : UInt64} (h : fd_p a) : fd_k a = (a.toNat : Int) ∧ a.toNat % 2 ^ 63 = a.toNat := by
  have := h.2
  unfold fd_k FP.Core.dkey
  rw [if_neg (by omega)]
  exact ⟨rfl, by omega⟩
theorem fd_p_k {a : UInt64} (hn : fd_n a) (h : 0 < fd_k a) : fd_p a := by
  refine ⟨hn, ?_⟩
  have := a.toNat_lt
  unfold fd_k FP.Core.dkey at h
  split at h <;> omega
theorem fd_p_c {a : UInt64} (hn : fd_n a) (h : 0 ≤ fd_k a) (hc : fd_c a = a) : fd_p a := by
  by_cases e : fd_k a = 0
  · unfold fd_c at hc
    rw [if_pos e] at hc
    rw [← hc]
    exact ⟨fd_0_n, by decide⟩
  · exact fd_p_k hn (by omega)
theorem fd_f_lt {a : UInt64} (hn : fd_n a) (h1 : -9218868437227405312 < fd_k a) (h2 : fd_k a < 9218868437227405312) : fd_f a := (fd_f_k hn).mpr (by omega)
