/-! THE PURE PART: doubles -/
/-- a number or endless -/
def fd_n (a : UInt64) : Prop := FP.Core.val64 a ≠ .nan
/-- a number -/
def fd_f (a : UInt64) : Prop := FP.Core.DFin a
/-- its order, as a whole number -/
def fd_k (a : UInt64) : Int := FP.Core.dkey a
/-- its value in units of 2^-1074 -/
def fd_v (a : UInt64) : Int := FP.Core.zval FP.Core.b64 (FP.Core.val64 a)
/-- one zero alone -/
def fd_c (a : UInt64) : UInt64 := if fd_k a = 0 then 0 else a
theorem fd_nn (r : UInt64) : gk_nn r = true ↔ fd_n r := by
  unfold gk_nn fd_n
  rw [FP.Core.ne_nan, decide_eq_true_eq, UInt64.le_iff_toNat_le, FP.Core.mask_toNat]
  exact Iff.rfl
theorem fd_dop {β : Type} {v : UInt64} (h : fd_n v) (f : UInt64 → Option β) : gk_dop v f = f v := if_pos ((fd_nn v).mpr h)
theorem fd_f.n {a : UInt64} (h : fd_f a) : fd_n a := FP.Core.DFin.ne_nan h
theorem fd_n_isNaN {a : UInt64} : FP.Core.dIsNaN a = false ↔ fd_n a := FP.Core.notNaN_iff a
theorem fd_f_k {a : UInt64} (h : fd_n a) : fd_f a ↔ -9218868437227405311 ≤ fd_k a ∧ fd_k a ≤ 9218868437227405311 := by
  have hb := (FP.Core.ne_nan a).mp h
  have hl := a.toNat_lt
  unfold fd_f fd_k FP.Core.dkey
  rw [FP.Core.fin_bits]
  split <;> omega
theorem fd_n_k {a : UInt64} (h : fd_n a) : -9218868437227405312 ≤ fd_k a ∧ fd_k a ≤ 9218868437227405312 := by
  have hb := (FP.Core.ne_nan a).mp h
  have hl := a.toNat_lt
  unfold fd_k FP.Core.dkey
  split <;> omega
theorem fd_cmp {a b : UInt64} (ha : fd_n a) (hb : fd_n b) (op : CmpOp) : Op.cmpValue (FP.dcmp a b) op = if fd_k a < fd_k b then -1 else if fd_k a = fd_k b then 0 else 1 := by
  have e : FP.dcmp a b = some (compare (fd_k a) (fd_k b)) := FP.Core.dcmp_key ha hb
  rw [e]
  unfold Op.cmpValue
  rcases Int.lt_trichotomy (fd_k a) (fd_k b) with h | h | h
  · rw [if_pos h, (FP.Core.compare_lt_iff _ _).mpr h]
  · rw [if_neg (by omega), if_pos h, (FP.Core.compare_eq_iff _ _).mpr h]
  · rw [if_neg (by omega), if_neg (by omega), (FP.Core.compare_gt_iff _ _).mpr h]
section FDI
variable {β : Sort _} (x y : β) {a b : UInt64}
theorem fi_lt (ha : fd_n a) (hb : fd_n b) (op : CmpOp) : (if Op.cmpValue (FP.dcmp a b) op < 0 then x else y) = if fd_k a < fd_k b then x else y := by
  rw [fd_cmp ha hb]
  rcases Int.lt_trichotomy (fd_k a) (fd_k b) with h | h | h
  · rw [if_pos h, if_pos h]
    rfl
  · rw [if_neg (show ¬ fd_k a < fd_k b by omega), if_pos h, if_neg (show ¬ fd_k a < fd_k b by omega)]
    rfl
  · rw [if_neg (show ¬ fd_k a < fd_k b by omega), if_neg (show ¬ fd_k a = fd_k b by omega), if_neg (show ¬ fd_k a < fd_k b by omega)]
    rfl
theorem fi_le (ha : fd_n a) (hb : fd_n b) (op : CmpOp) : (if Op.cmpValue (FP.dcmp a b) op ≤ 0 then x else y) = if fd_k a ≤ fd_k b then x else y := by
  rw [fd_cmp ha hb]
  rcases Int.lt_trichotomy (fd_k a) (fd_k b) with h | h | h
  · rw [if_pos h, if_pos (show fd_k a ≤ fd_k b by omega)]
    rfl
  · rw [if_neg (show ¬ fd_k a < fd_k b by omega), if_pos h, if_pos (show fd_k a ≤ fd_k b by omega)]
    rfl
  · rw [if_neg (show ¬ fd_k a < fd_k b by omega), if_neg (show ¬ fd_k a = fd_k b by omega), if_neg (show ¬ fd_k a ≤ fd_k b by omega)]
    rfl
theorem fi_gt (ha : fd_n a) (hb : fd_n b) (op : CmpOp) : (if 0 < Op.cmpValue (FP.dcmp a b) op then x else y) = if fd_k b < fd_k a then x else y := by
  rw [fd_cmp ha hb]
  rcases Int.lt_trichotomy (fd_k a) (fd_k b) with h | h | h
  · rw [if_pos h, if_neg (show ¬ fd_k b < fd_k a by omega)]
    rfl
  · rw [if_neg (show ¬ fd_k a < fd_k b by omega), if_pos h, if_neg (show ¬ fd_k b < fd_k a by omega)]
    rfl
  · rw [if_neg (show ¬ fd_k a < fd_k b by omega), if_neg (show ¬ fd_k a = fd_k b by omega), if_pos h]
    rfl
theorem fi_ge (ha : fd_n a) (hb : fd_n b) (op : CmpOp) : (if 0 ≤ Op.cmpValue (FP.dcmp a b) op then x else y) = if fd_k b ≤ fd_k a then x else y := by
  rw [fd_cmp ha hb]
  rcases Int.lt_trichotomy (fd_k a) (fd_k b) with h | h | h
  · rw [if_pos h, if_neg (show ¬ fd_k b ≤ fd_k a by omega)]
    rfl
  · rw [if_neg (show ¬ fd_k a < fd_k b by omega), if_pos h, if_pos (show fd_k b ≤ fd_k a by omega)]
    rfl
  · rw [if_neg (show ¬ fd_k a < fd_k b by omega), if_neg (show ¬ fd_k a = fd_k b by omega), if_pos (show fd_k b ≤ fd_k a by omega)]
    rfl
theorem fi_eq (ha : fd_n a) (hb : fd_n b) (op : CmpOp) : (if Op.cmpValue (FP.dcmp a b) op = 0 then x else y) = if fd_k a = fd_k b then x else y := by
  rw [fd_cmp ha hb]
  rcases Int.lt_trichotomy (fd_k a) (fd_k b) with h | h | h
  · rw [if_pos h, if_neg (show ¬ fd_k a = fd_k b by omega)]
    rfl
  · rw [if_neg (show ¬ fd_k a < fd_k b by omega), if_pos h, if_pos h]
    rfl
  · rw [if_neg (show ¬ fd_k a < fd_k b by omega), if_neg (show ¬ fd_k a = fd_k b by omega), if_neg (show ¬ fd_k a = fd_k b by omega)]
    rfl
end FDI
theorem fd_k0 : fd_k 0 = 0 := rfl
theorem fd_f0 : fd_f 0 := ⟨false, 0, _, FP.Core.val64_zero⟩
theorem fd_fc {a : UInt64} (h : fd_f a) : fd_f (fd_c a) := by
  unfold fd_c
  split
  · exact fd_f0
  · exact h
theorem fd_cc (a : UInt64) : fd_c (fd_c a) = fd_c a := by
  unfold fd_c
  by_cases h : fd_k a = 0
  · rw [if_pos h, if_pos fd_k0]
  · rw [if_neg h, if_neg h]
theorem fd_kc (a : UInt64) : fd_k (fd_c a) = fd_k a := by
  unfold fd_c
  by_cases h : fd_k a = 0
  · rw [if_pos h, h]
    rfl
  · rw [if_neg h]
/-- two doubles of one order that are not the two zeros are the same -/
theorem fd_k_inj {a b : UInt64} (h : fd_k a = fd_k b) (h0 : fd_k a ≠ 0) : a = b := by
  have ha := a.toNat_lt
  have hb := b.toNat_lt
  unfold fd_k FP.Core.dkey at h h0
  apply UInt64.toNat_inj.mp
  split at h <;> split at h <;> simp_all <;> omega
theorem fd_k_c {a b : UInt64} (h : fd_k a = fd_k b) : fd_c a = fd_c b := by
  unfold fd_c
  by_cases h0 : fd_k a = 0
  · rw [if_pos h0, if_pos (by omega)]
  · rw [if_neg h0, if_neg (by omega)]
    exact fd_k_inj h h0
/-- literals that the programs compare with -/
theorem fd_max_n : fd_n 0x7fefffffffffffff := (FP.Core.ne_nan _).mpr (by decide)
theorem fd_min_n : fd_n 0xffefffffffffffff := (FP.Core.ne_nan _).mpr (by decide)
theorem fd_0_n : fd_n 0 := fd_f0.n
theorem fd_max_k : fd_k 0x7fefffffffffffff = 9218868437227405311 := by decide
theorem fd_min_k : fd_k 0xffefffffffffffff = -9218868437227405311 := by decide
theorem v_isFinite {a : UInt64} (ha : fd_n a) (h : gk_H) : f_Va_isFinite a h = some (if -9218868437227405311 ≤ fd_k a ∧ fd_k a ≤ 9218868437227405311 then 1 else 0, h) := by
  unfold f_Va_isFinite f_Va_isFinite_b20 f_Va_isFinite_b21
  rw [fi_lt _ _ ha fd_min_n, fi_gt _ _ ha fd_max_n, fd_max_k, fd_min_k, nb0, nb1]
  by_cases h1 : fd_k a < -9218868437227405311
  · rw [if_pos h1, if_neg (by omega)]
  · rw [if_neg h1]
    by_cases h2 : 9218868437227405311 < fd_k a
    · rw [if_pos h2, if_neg (by omega)]
    · rw [if_neg h2, if_pos (by omega)]
