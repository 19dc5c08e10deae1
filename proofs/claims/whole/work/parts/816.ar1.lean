/-! THE PURE PART: floors and ceilings; sizes and signs -/
theorem l2d_1 : FP.l2d (gJ 1) = 0x3ff0000000000000 := by decide +kernel
theorem l2d_0 : FP.l2d (gJ 0) = 0 := by decide +kernel
theorem fd_sm {z : Int} (h1 : -9007199254740992 < z) (h2 : z < 9007199254740992) : FP.Core.Small53 (gJ z) := by
  unfold FP.Core.Small53
  rw [gJ_toInt z (by omega) (by omega)]
  exact ⟨h1, h2⟩
theorem fd_addl {y z : Int} (h1 : -9007199254740992 < y) (h2 : y < 9007199254740992) (h3 : -9007199254740992 < z) (h4 : z < 9007199254740992) : FP.dadd (FP.l2d (gJ y)) (FP.l2d (gJ z)) = FP.l2d (gJ (y + z)) := by
  rw [← gJ_add]
  exact FP.Core.dadd_l2d (fd_sm h1 h2) (fd_sm h3 h4)
theorem fd_subl {y z : Int} (h1 : -9007199254740992 < y) (h2 : y < 9007199254740992) (h3 : -9007199254740992 < z) (h4 : z < 9007199254740992) : FP.dsub (FP.l2d (gJ y)) (FP.l2d (gJ z)) = FP.l2d (gJ (y - z)) := by
  rw [← gJ_sub]
  exact FP.Core.dsub_l2d (fd_sm h1 h2) (fd_sm h3 h4)
/-- below 2^53 -/
def fd_b (x : UInt64) : Prop := -4845873199050653696 < fd_k x ∧ fd_k x < 4845873199050653696
theorem fd_top_v : fd_v 0x433fffffffffffff = 9007199254740991 * fd_P := by decide +kernel
theorem fd_mtop_v : fd_v 0xc33fffffffffffff = -(9007199254740991 * fd_P) := by decide +kernel
theorem fd_b_v {x : UInt64} (hx : fd_n x) (h : fd_b x) : -(9007199254740991 * fd_P) ≤ fd_v x ∧ fd_v x ≤ 9007199254740991 * fd_P := by
  have n1 : fd_n 0x433fffffffffffff := (FP.Core.ne_nan _).mpr (by decide)
  have n2 : fd_n 0xc33fffffffffffff := (FP.Core.ne_nan _).mpr (by decide)
  have k1 : fd_k 0x433fffffffffffff = 4845873199050653695 := by decide
  have k2 : fd_k 0xc33fffffffffffff = -4845873199050653695 := by decide
  unfold fd_b at h
  refine ⟨?_, ?_⟩
  · rw [← fd_mtop_v]
    exact (fd_kv_le n2 hx).mp (by rw [k2]; omega)
  · rw [← fd_top_v]
    exact (fd_kv_le hx n1).mp (by rw [k1]; omega)
theorem fd_b_T {x : UInt64} (hx : fd_n x) (h : fd_b x) : -9007199254740992 < fd_T x ∧ fd_T x < 9007199254740992 := fd_in_T hx h
theorem fd_d2lT {x : UInt64} (hx : fd_n x) (h : fd_b x) : FP.d2l x = gJ (fd_T x) := by
  have := fd_b_T hx h
  exact (fd_d2l hx (by omega) (by omega)).1
/-- the greatest whole number not above, the least not below -/
def fd_fl (x : UInt64) : Int := fd_v x / fd_P
def fd_ce (x : UInt64) : Int := -(-fd_v x / fd_P)
theorem fd_div_u {v q : Int} (h1 : q * fd_P ≤ v) (h2 : v < (q + 1) * fd_P) : v / fd_P = q := by
  have hP := fd_P_pos
  have a1 := Int.ediv_mul_le v (show fd_P ≠ 0 by omega)
  have a2 := Int.lt_ediv_add_one_mul_self v hP
  have b1 : v / fd_P < q + 1 := fd_mulP.mp (by omega)
  have b2 : q < v / fd_P + 1 := fd_mulP.mp (by omega)
  omega
theorem fd_fl_T {x : UInt64} : fd_fl x = if fd_v x < fd_T x * fd_P then fd_T x - 1 else fd_T x := by
  have hP := fd_P_pos
  unfold fd_fl
  by_cases h : 0 ≤ fd_v x
  · obtain ⟨t1, t2, t3⟩ := fd_T_pos h
    rw [if_neg (by omega)]
    exact fd_div_u t2 t3
  · obtain ⟨t1, t2, t3⟩ := fd_T_neg (a := x) (by omega)
    split
    · rename_i q
      refine fd_div_u (by omega) ?_
      rw [show fd_T x - 1 + 1 = fd_T x from by omega]
      exact q
    · rename_i q
      have e : fd_v x = fd_T x * fd_P := by omega
      refine fd_div_u (by omega) ?_
      have : fd_T x * fd_P < (fd_T x + 1) * fd_P := fd_mulP.mpr (by omega)
      omega
theorem fd_ce_T {x : UInt64} : fd_ce x = if fd_T x * fd_P < fd_v x then fd_T x + 1 else fd_T x := by
  have hP := fd_P_pos
  unfold fd_ce
  have key : ∀ q : Int, fd_v x ≤ q * fd_P → (q - 1) * fd_P < fd_v x → -(-fd_v x / fd_P) = q := by
    intro q h1 h2
    have : -fd_v x / fd_P = -q := fd_div_u (by rw [Int.neg_mul]; omega) (by
      rw [show -q + 1 = -(q - 1) from by omega, Int.neg_mul]
      omega)
    omega
  by_cases h : 0 ≤ fd_v x
  · obtain ⟨t1, t2, t3⟩ := fd_T_pos h
    split
    · rename_i q
      exact key _ (by omega) (by rw [show fd_T x + 1 - 1 = fd_T x from by omega]; exact q)
    · rename_i q
      have e : fd_v x = fd_T x * fd_P := by omega
      refine key _ (by omega) ?_
      have : (fd_T x - 1) * fd_P < fd_T x * fd_P := fd_mulP.mpr (by omega)
      omega
  · obtain ⟨t1, t2, t3⟩ := fd_T_neg (a := x) (by omega)
    rw [if_neg (by omega)]
    exact key _ t2 t3
theorem fd_fl_b {x : UInt64} (hx : fd_n x) (h : fd_b x) : -9007199254740991 ≤ fd_fl x ∧ fd_fl x ≤ 9007199254740991 := by
  obtain ⟨h1, h2⟩ := fd_b_v hx h
  have hP := fd_P_pos
  have a1 := Int.ediv_mul_le (fd_v x) (show fd_P ≠ 0 by omega)
  have a2 := Int.lt_ediv_add_one_mul_self (fd_v x) hP
  unfold fd_fl
  have b1 : fd_v x / fd_P < 9007199254740991 + 1 := fd_mulP.mp (by rw [Int.add_mul]; omega)
  have b2 : -9007199254740991 < fd_v x / fd_P + 1 := fd_mulP.mp (by rw [Int.neg_mul]; omega)
  omega
theorem fd_ce_b {x : UInt64} (hx : fd_n x) (h : fd_b x) : -9007199254740991 ≤ fd_ce x ∧ fd_ce x ≤ 9007199254740991 := by
  obtain ⟨h1, h2⟩ := fd_b_v hx h
  have hP := fd_P_pos
  have a1 := Int.ediv_mul_le (-fd_v x) (show fd_P ≠ 0 by omega)
  have a2 := Int.lt_ediv_add_one_mul_self (-fd_v x) hP
  unfold fd_ce
  have b1 : -fd_v x / fd_P < 9007199254740991 + 1 := fd_mulP.mp (by rw [Int.add_mul]; omega)
  have b2 : -9007199254740991 < -fd_v x / fd_P + 1 := fd_mulP.mp (by rw [Int.neg_mul]; omega)
  omega
def s_fl (x : UInt64) : UInt64 := if -4845873199050653696 < fd_k x ∧ fd_k x < 4845873199050653696 then FP.l2d (gJ (fd_fl x)) else x
def s_ce (x : UInt64) : UInt64 := if -4845873199050653696 < fd_k x ∧ fd_k x < 4845873199050653696 then FP.l2d (gJ (fd_ce x)) else x
theorem s_fl_f {x : UInt64} (h : fd_f x) : fd_f (s_fl x) := by
  unfold s_fl
  split
  · exact fd_l2df _
  · exact h
theorem s_ce_f {x : UInt64} (h : fd_f x) : fd_f (s_ce x) := by
  unfold s_ce
  split
  · exact fd_l2df _
  · exact h
theorem fd_TL {x : UInt64} (hx : fd_n x) (h : fd_b x) : fd_i (fd_T x) (FP.l2d (gJ (fd_T x))) := by
  have := fd_b_T hx h
  exact fd_l2d (by omega) (by omega)
/-- whole above, below -/
theorem fd_Tk {x : UInt64} (hx : fd_n x) (h : fd_b x) : (fd_k x < fd_k (FP.l2d (gJ (fd_T x))) ↔ fd_v x < fd_T x * fd_P) ∧ (fd_k (FP.l2d (gJ (fd_T x))) < fd_k x ↔ fd_T x * fd_P < fd_v x) := by
  have e := fd_TL hx h
  rw [fd_kv_lt hx e.n, fd_kv_lt e.n hx, e.v]
  exact ⟨Iff.rfl, Iff.rfl⟩
theorem m_floor {x : UInt64} (hx : fd_n x) (h : gk_H) : f_Am_floor x h = some (s_fl x, h) := by
  unfold f_Am_floor f_Am_floor_b18 s_fl
  rw [m_wholePart hx, gk_ca_some]
  by_cases hb : -4845873199050653696 < fd_k x ∧ fd_k x < 4845873199050653696
  · obtain ⟨t1, t2⟩ := fd_Tk hx hb
    have e := fd_TL hx hb
    have hT := fd_b_T hx hb
    rw [if_pos hb, if_pos hb, fd_d2lT hx hb, fi_le _ _ e.n hx, fd_fl_T]
    by_cases z : fd_v x < fd_T x * fd_P
    · rw [if_neg (by omega), if_pos z, ← l2d_1, fd_subl (by omega) (by omega) (by decide) (by decide), fd_dop (fd_l2df _).n]
    · rw [if_pos (by omega), if_neg z]
  · rw [if_neg hb, if_neg hb, fi_le _ _ hx hx, if_pos (Int.le_refl _)]
theorem m_ceiling {x : UInt64} (hx : fd_n x) (h : gk_H) : f_Am_ceiling x h = some (s_ce x, h) := by
  unfold f_Am_ceiling f_Am_ceiling_b18 s_ce
  rw [m_wholePart hx, gk_ca_some]
  by_cases hb : -4845873199050653696 < fd_k x ∧ fd_k x < 4845873199050653696
  · obtain ⟨t1, t2⟩ := fd_Tk hx hb
    have e := fd_TL hx hb
    have hT := fd_b_T hx hb
    rw [if_pos hb, if_pos hb, fd_d2lT hx hb, fi_ge _ _ e.n hx, fd_ce_T]
    by_cases z : fd_T x * fd_P < fd_v x
    · rw [if_neg (by omega), if_pos z, ← l2d_1, fd_addl (by omega) (by omega) (by decide) (by decide), fd_dop (fd_l2df _).n]
    · rw [if_pos (by omega), if_neg z]
  · rw [if_neg hb, if_neg hb, fi_ge _ _ hx hx, if_pos (Int.le_refl _)]
/-- the reference's -/
theorem r_floor {x : UInt64} (hx : fd_n x) (h : gk_H) : f_M_floor x h = some (s_fl x, h) := by
  unfold f_M_floor f_M_floor_b16 f_M_floor_b37 s_fl
  rw [fi_ge _ _ hx fd_53_n, fd_53_k, fi_gt _ _ hx fd_m53_n, fd_m53_k]
  by_cases hb : -4845873199050653696 < fd_k x ∧ fd_k x < 4845873199050653696
  · obtain ⟨t1, t2⟩ := fd_Tk hx hb
    have e := fd_TL hx hb
    have hT := fd_b_T hx hb
    rw [if_neg (by omega), if_pos hb.1, if_pos hb, fd_d2lT hx hb, gk_let_eq, fi_le _ _ e.n hx, fd_fl_T, show (1 : Int64) = gJ 1 from rfl, gJ_sub]
    by_cases z : fd_v x < fd_T x * fd_P
    · rw [if_neg (by omega), if_pos z]
    · rw [if_pos (by omega), if_neg z]
  · rw [if_neg hb]
    by_cases z : 4845873199050653696 ≤ fd_k x
    · rw [if_pos z]
    · rw [if_neg z, if_neg (by omega)]
theorem fd_sub0l {z : Int} (h1 : -9007199254740992 < z) (h2 : z < 9007199254740992) : FP.dsub 0 (FP.l2d (gJ z)) = FP.l2d (gJ (-z)) := by
  rw [← l2d_0, fd_subl (by decide) (by decide) h1 h2]
  congr 2
  omega
theorem fd_neg_v {x : UInt64} (h : fd_n x) : fd_v (FP.dsub 0 x) = -fd_v x := by
  by_cases z : fd_k x = 0
  · obtain ⟨a1, a2, a3⟩ := fd_neg h
    have e1 := (fd_kv_0 h).1.mp z
    have e2 := (fd_kv_0 a1).1.mp (by rw [a2, z]; rfl)
    rw [e1, e2]
    rfl
  · rw [fd_neg_eq h z]
    exact (fd_dneg h).2.2.1
theorem r_ceiling {x : UInt64} (hx : fd_n x) (h : gk_H) : f_M_ceiling x h = some (s_ce x, h) := by
  obtain ⟨a1, a2, a3⟩ := fd_neg hx
  unfold f_M_ceiling s_ce
  rw [fd_dop a1, r_floor a1, gk_ca_some]
  unfold s_fl
  by_cases hb : -4845873199050653696 < fd_k x ∧ fd_k x < 4845873199050653696
  · have hb' : -4845873199050653696 < fd_k (FP.dsub 0 x) ∧ fd_k (FP.dsub 0 x) < 4845873199050653696 := by omega
    have hf := fd_fl_b a1 hb'
    have e : fd_fl (FP.dsub 0 x) = -fd_ce x := by
      unfold fd_fl fd_ce
      rw [fd_neg_v hx]
      omega
    rw [if_pos hb', if_pos hb, fd_sub0l (by omega) (by omega), fd_dop (fd_l2df _).n, e, Int.neg_neg]
  · obtain ⟨c1, c2, c3⟩ := fd_neg a1
    rw [if_neg (by omega), if_neg hb, fd_dop c1]
    congr 2
    exact fd_k_inj (by omega) (by omega)
theorem m_sizeOf {x : UInt64} (hx : fd_n x) (h : gk_H) : f_Am_sizeOf x h = some (wr_y x, h) := by
  unfold f_Am_sizeOf f_Am_sizeOf_b13 wr_y
  rw [fi_ge _ _ hx fd_0_n, fd_k0]
  by_cases z : fd_k x < 0
  · rw [if_neg (by omega), if_pos z, fd_neg_eq hx (by omega), fd_dop (fd_dneg hx).1]
  · rw [if_pos (by omega), if_neg z]
def s_sg (x : UInt64) : Int := if fd_k x < 0 then -1 else if 0 < fd_k x then 1 else 0
theorem m_sign {x : UInt64} (hx : fd_n x) (h : gk_H) : f_Am_sign x h = some (gN (s_sg x), h) := by
  unfold f_Am_sign f_Am_sign_b21 s_sg
  rw [fi_ge _ _ hx fd_0_n, fi_le _ _ hx fd_0_n, fd_k0]
  by_cases z : fd_k x < 0
  · rw [if_neg (by omega), if_pos z, gI_m1B]
  · rw [if_pos (by omega), if_neg z]
    by_cases z2 : 0 < fd_k x
    · rw [if_neg (by omega), if_pos z2]
      rfl
    · rw [if_pos (by omega), if_neg z2]
      rfl
theorem wr_y_f {x : UInt64} (h : fd_f x) : fd_f (wr_y x) := by
  unfold wr_y
  split
  · exact (fd_dneg h.n).2.2.2 h
  · exact h
theorem wr_y_k {x : UInt64} (h : fd_n x) : 0 ≤ fd_k (wr_y x) := by
  rw [(wr_yn h).2]
  split <;> omega
