/-! THE PURE PART: days, functions 81 to 91 (class) -/
def dB : List Nat := [0, 31, 59, 90, 120, 151, 181, 212, 243, 273, 304, 334]
/-- DAYS_BEFORE, as the class's static -/
def gp_dy (h : gk_H) : Prop := 44 ≤ h.1 ∧ (h.2.2 3).1 = 1 ∧ (h.2.2 3).2.1 = 12 ∧ ∀ k, k < 12 → (h.2.2 3).2.2 k = .int (gI (dB.getD k 0))
theorem gp_dy.ext {c s : Nat} {h h' : gk_H} (a : gp_dy h) (e : gp_ext c s h h') : gp_dy h' := by
  obtain ⟨a1, a2, a3, a4⟩ := a
  have := e.2.2.2 3 (by omega)
  have := e.1
  unfold gp_dy
  rw [e.2.2.2 3 (by omega)]
  exact ⟨by omega, a2, a3, a4⟩
def lpN (y : Nat) : Bool := decide (y % 4 = 0 ∧ (y % 100 ≠ 0 ∨ y % 400 = 0))
def fsN (m : Nat) : Nat := 1 + 365 * (m / 12) + ((1900 + m / 12 - 1) / 4 - (1900 + m / 12 - 1) / 100 + (1900 + m / 12 - 1) / 400 - 460) + dB.getD (m % 12) 0 + (if 1 < m % 12 ∧ lpN (1900 + m / 12) = true then 1 else 0) + (if 1 < m then 1 else 0)
theorem dB_le (k : Nat) : dB.getD k 0 ≤ 334 := by
  by_cases h : k < 12
  · have : ∀ k : Fin 12, dB.getD k.val 0 ≤ 334 := by decide
    exact this ⟨k, h⟩
  · rw [List.getD_eq_getElem?_getD, List.getElem?_eq_none (by show 12 ≤ k; omega)]
    exact Nat.zero_le _
theorem fsN_le {m : Nat} (h : m ≤ 600000) : fsN m ≤ 20000000 ∧ 1 ≤ fsN m := by
  have := dB_le (m % 12)
  unfold fsN
  have h1 : (if 1 < m % 12 ∧ lpN (1900 + m / 12) = true then 1 else 0) ≤ 1 := by split <;> omega
  have h2 : (if 1 < m then 1 else 0) ≤ 1 := by split <;> omega
  omega
def sp_bs (d : Nat) : Nat → Nat → Nat
  | 0, m => m
  | k + 1, m => sp_bs d k (if fsN (m + 2 ^ k) ≤ d then m + 2 ^ k else m)
theorem sp_bs_le (d : Nat) : ∀ k m, sp_bs d k m < m + 2 ^ k
  | 0, m => by
    show m < m + 1
    omega
  | k + 1, m => by
    have := sp_bs_le d k (if fsN (m + 2 ^ k) ≤ d then m + 2 ^ k else m)
    have e : 2 ^ (k + 1) = 2 ^ k + 2 ^ k := by rw [Nat.pow_succ]; omega
    have hp : 0 < 2 ^ k := Nat.pow_pos (by decide)
    rw [sp_bs]
    by_cases z : fsN (m + 2 ^ k) ≤ d
    · rw [if_pos z] at this ⊢
      omega
    · rw [if_neg z] at this ⊢
      omega
def sp_mo (d : Nat) : Nat := sp_bs d 17 0
theorem sp_mo_le (d : Nat) : sp_mo d < 131072 := by
  have := sp_bs_le d 17 0
  unfold sp_mo
  have e : 0 + 2 ^ 17 = 131072 := by decide
  omega
def dyo (x : UInt64) : Option Nat := if fd_k x < 0 ∨ fd_k 0x4146924100000000 ≤ fd_k x then none else some (fd_T x).toNat
theorem fd_dayc : fd_i 2958466 0x4146924100000000 := by
  have := fd_i2dI (n := 2958466) (by decide)
  have e : FP.i2d (gI 2958466) = 0x4146924100000000 := (by decide +kernel)
  rw [e] at this
  exact this
theorem dyo_b {x : UInt64} (hx : fd_n x) {d : Nat} (h : dyo x = some d) : FP.d2i x = gI d ∧ d ≤ 2958465 := by
  unfold dyo at h
  split at h
  · cases h
  · rename_i z
    have z1 : 0 ≤ fd_k x := by omega
    have z2 : fd_k x < fd_k 0x4146924100000000 := by omega
    have v1 := (fd_kv_0 hx).2.2.2.mp z1
    have v2 := (fd_kv_lt hx fd_dayc.n).mp z2
    rw [fd_dayc.v] at v2
    obtain ⟨t1, t2, t3⟩ := fd_T_pos v1
    have hP := fd_P_pos
    have t4 : fd_T x < 2958466 := by
      by_cases c : fd_T x < 2958466
      · exact c
      · have := Int.mul_le_mul_of_nonneg_right (show (2958466 : Int) ≤ fd_T x by omega) (Int.le_of_lt hP)
        omega
    cases h
    refine ⟨?_, by omega⟩
    rw [fd_d2i hx (by omega) (by omega), gI_N, Int.toNat_of_nonneg t1]
def shN (z : Int) : Bool := decide (-32768 ≤ z ∧ z ≤ 32767)
def sp_oD (z : Int) : gp_C := if z < 0 ∨ 2958465 < z then gc_e 6 else gc_n (FP.l2d (gJ z))
def sp_dat (y m d : Int) : gp_C := if shN y = true ∧ shN m = true ∧ shN d = true then (if ((if y < 1900 then y + 1900 else y) - 1900) * 12 + m - 1 < 0 then gc_e 6 else sp_oD ((fsN (((if y < 1900 then y + 1900 else y) - 1900) * 12 + m - 1).toNat : Int) + d - 1)) else gc_e 6
def sp_pd (f : Nat) (x : UInt64) : gp_C := match dyo x with
  | none => gc_e 6
  | some d => if f = 82 then gc_n (FP.i2d (gI (1900 + sp_mo d / 12))) else if f = 83 then gc_n (FP.i2d (gI (sp_mo d % 12 + 1))) else gc_n (FP.i2d (gN ((d : Int) - fsN (sp_mo d) + 1)))
def sp_wd (x : UInt64) (ma : Int) : gp_C := match dyo x with
  | none => gc_e 6
  | some d => if ma < 1 ∨ 3 < ma then gc_e 6 else if ma = 1 then gc_n (FP.i2d (gI ((d + 6) % 7 + 1))) else gc_n (FP.i2d (gI ((d + 5) % 7 + (if ma = 2 then 1 else 0))))
def sp_mon (f : Nat) (x : UInt64) (mo : Int) : gp_C := match dyo x with
  | none => gc_e 6
  | some d => if shN mo = true then (if (sp_mo d : Int) + mo < 0 then gc_e 6 else sp_oD (if f = 87 then (fsN (((sp_mo d : Int) + mo).toNat + 1) : Int) - 1 else min ((fsN ((sp_mo d : Int) + mo).toNat : Int) + d - fsN (sp_mo d)) ((fsN (((sp_mo d : Int) + mo).toNat + 1) : Int) - 1))) else gc_e 6
def sp_tim (p q r : Int) : gp_C := if p < 0 ∨ 32767 < p ∨ q < 0 ∨ 32767 < q ∨ r < 0 ∨ 32767 < r then gc_e 6 else gc_num (FP.ddiv (FP.l2d (gJ ((3600 * p + 60 * q + r) % 86400))) 0x40f5180000000000)
def s_sec (x : UInt64) : Int32 := if FP.d2i (FP.dadd (FP.dmul (FP.dsub x (s_fl x)) 0x40f5180000000000) 0x3fe0000000000000) = (86400 : Int32) then (0 : Int32) else FP.d2i (FP.dadd (FP.dmul (FP.dsub x (s_fl x)) 0x40f5180000000000) 0x3fe0000000000000)
def sp_pod (f : Nat) (x : UInt64) : gp_C := if fd_k x < 0 then gc_e 6 else if f = 89 then gc_n (FP.i2d (s_sec x / (3600 : Int32))) else if f = 90 then gc_n (FP.i2d ((s_sec x / (60 : Int32)) - (s_sec x / (60 : Int32)) / (60 : Int32) * (60 : Int32))) else gc_n (FP.i2d (s_sec x - s_sec x / (60 : Int32) * (60 : Int32)))
def sp_da (f : Nat) (vs : Nat → gp_V) (n : Nat) : gp_C :=
  if f = 81 then sx (bl (bl (sW vs 0) (sW vs 1)) (sW vs 2)) (sp_dat (sw_x vs 0) (sw_x vs 1) (sw_x vs 2))
  else if f = 82 ∨ f = 83 ∨ f = 84 then sx (sN vs 0).1 (sp_pd f (sN vs 0).2)
  else if f = 85 then sx (bl (sN vs 0).1 (oW vs n 1)) (sp_wd (sN vs 0).2 (oX vs n 1))
  else if f = 86 ∨ f = 87 then sx (bl (sN vs 0).1 (sW vs 1)) (sp_mon f (sN vs 0).2 (sw_x vs 1))
  else if f = 88 then sx (bl (bl (sW vs 0) (sW vs 1)) (sW vs 2)) (sp_tim (sw_x vs 0) (sw_x vs 1) (sw_x vs 2))
  else sx (sN vs 0).1 (sp_pod f (sN vs 0).2)
section DAY
variable {b n : Nat} {h : gk_H} {S : gv_S} {vs : Nat → gp_V} {f : Nat} {row : List UInt64} {j i : Nat} {l t : List Nat}
theorem gI_xor (a c : Nat) (ha : a < 2147483648) (hc : c < 2147483648) : (0 : Int32) ≤ (gI a ^^^ gI c) := by
  have e : gI a ^^^ gI c = gI (a ^^^ c) := by
    apply Int32.toBitVec_inj.mp
    show BitVec.ofNat 32 a ^^^ BitVec.ofNat 32 c = BitVec.ofNat 32 (a ^^^ c)
    apply BitVec.eq_of_toNat_eq
    simp [Nat.mod_eq_of_lt, show a < 2 ^ 32 by omega, show c < 2 ^ 32 by omega, Nat.xor_lt_two_pow (show a < 2 ^ 32 by omega) (show c < 2 ^ 32 by omega)]
  have hx : a ^^^ c < 2 ^ 31 := Nat.xor_lt_two_pow (by omega) (by omega)
  rw [e, show (0 : Int32) = gI 0 from rfl, gI_le _ _ (by decide) (by omega)]
  exact Nat.zero_le _
theorem f_fmod (a c : Nat) (ha : a < 2147483648) (hc : c < 2147483648) (h0 : 0 < c) (h : gk_H) : f_Ma_floorMod (gI a) (gI c) h = some (gI (a % c), h) := by
  have hz : ¬ gI c = (0 : Int32) := fun w => by
    rw [show (0 : Int32) = gI 0 from rfl, gI_eq _ _ hc (by decide)] at w
    omega
  unfold f_Ma_floorMod f_Ma_floorMod_b18
  rw [if_neg hz, gI_mod a c ha hc h0, gk_let_eq, if_pos (gI_xor a c ha hc)]
theorem d_leap (y : Nat) (hy : y < 1000000) (h : gk_H) : f_Da_isLeap (gI y) h = some (gB (lpN y), h) := by
  unfold f_Da_isLeap f_Da_isLeap_b21 f_Da_isLeap_b25 f_Da_isLeap_b26 lpN
  have z0 : ∀ (q : Nat), q < 1000000 → ∀ {β : Type} (x y : β), (if gI q = (0 : Int32) then x else y) = if q = 0 then x else y := fun q hq _ x y => ite_eq x y q 0 (by omega) (by decide)
  rw [nb0, nb1, gI_lit 4, gI_lit 100, gI_lit 400, gI_mod _ _ (by omega) (by decide) (by decide), gI_mod _ _ (by omega) (by decide) (by decide), gI_mod _ _ (by omega) (by decide) (by decide), z0 _ (by omega), z0 _ (by omega), z0 _ (by omega)]
  by_cases z4 : y % 4 = 0
  · rw [if_pos z4]
    by_cases z1 : y % 100 = 0
    · rw [if_pos z1]
      by_cases z3 : y % 400 = 0
      · rw [if_pos z3, decide_eq_true (show y % 4 = 0 ∧ (y % 100 ≠ 0 ∨ y % 400 = 0) from ⟨z4, Or.inr z3⟩)]
        rfl
      · rw [if_neg z3, decide_eq_false (show ¬ (y % 4 = 0 ∧ (y % 100 ≠ 0 ∨ y % 400 = 0)) from fun w => by omega)]
        rfl
    · rw [if_neg z1, decide_eq_true (show y % 4 = 0 ∧ (y % 100 ≠ 0 ∨ y % 400 = 0) from ⟨z4, Or.inl z1⟩)]
      rfl
  · rw [if_neg z4, decide_eq_false (show ¬ (y % 4 = 0 ∧ (y % 100 ≠ 0 ∨ y % 400 = 0)) from fun w => z4 w.1)]
    rfl
theorem gp_st.s4 (hs : gp_st h) {β : Type} (K : Option Nat → Option β) : (gk_asR (gk_gs (gv_ov h S) 4)).bind K = K (some 3) := by
  rw [gv_gs, hs.2.2.2.2.2]
  rfl
theorem d_first (hs : gp_st h) (hd : gp_dy h) (m : Nat) (hm : m ≤ 600000) : f_Da_firstOf (gI m) (gv_ov h S) = some (gI (fsN m), gv_ov h S) := by
  have hb := dB_le (m % 12)
  have hd4 := hd.2.2.2 (m % 12) (Nat.mod_lt _ (by decide))
  unfold f_Da_firstOf f_Da_firstOf_b77 f_Da_firstOf_b91
  rw [gI_lit 1900, gI_lit 12, gI_div _ _ (by omega) (by decide) (by decide), gI_add, gk_let_eq, f_fmod _ _ (by omega) (by decide) (by decide), gk_ca_some, show gI (1900 + m / 12) - (1 : Int32) = gI (1900 + m / 12 - 1) from gI_sub _ 1 (by omega), gk_let_eq, gI_lit 4, gI_lit 100, gI_lit 400, gI_lit 460, gI_div _ _ (by omega) (by decide) (by decide), gI_div _ _ (by omega) (by decide) (by decide), gI_div _ _ (by omega) (by decide) (by decide), gI_sub _ _ (by omega), gI_add, gI_sub _ _ (by omega), gk_let_eq, hs.s4]
  rw [gp_aldI (i := 3) (t := 1) (n := m % 12) rfl hd.2.1 (by rw [hd.2.2.1]; exact Nat.mod_lt _ (by decide)) (by rw [hd.2.2.1]; decide) hd4, gI_sub _ _ (by omega), show 1900 + m / 12 - 1900 = m / 12 by omega, gI_lit 365, gI_mul, show (1 : Int32) = gI 1 from rfl, gI_add, gI_add, gI_add, gk_let_eq, ite_le _ _ _ _ (by omega) (by decide), ite_le _ _ _ _ (by omega) (by decide), d_leap _ (by omega), gk_ca_some, ite_B, gk_let_eq, gI_add]
  unfold fsN
  generalize 1 + 365 * (m / 12) + ((1900 + m / 12 - 1) / 4 - (1900 + m / 12 - 1) / 100 + (1900 + m / 12 - 1) / 400 - 460) + dB.getD (m % 12) 0 = A
  have e1 : ∀ A : Nat, (if m ≤ 1 then some (gI A, gv_ov h S) else some (gI (A + 1), gv_ov h S)) = some (gI (A + if 1 < m then 1 else 0), gv_ov h S) := fun A => by
    by_cases z : m ≤ 1
    · rw [if_pos z, if_neg (show ¬ 1 < m by omega), Nat.add_zero]
    · rw [if_neg z, if_pos (show 1 < m by omega)]
  have e2 := e1 (A + 1)
  by_cases z : m % 12 ≤ 1
  · rw [if_pos z, e1 A, if_neg (show ¬ (1 < m % 12 ∧ lpN (1900 + m / 12) = true) from fun w => by omega), Nat.add_zero]
  · rw [if_neg z]
    by_cases z2 : lpN (1900 + m / 12) = true
    · rw [if_pos z2, ite_le _ _ _ _ (by omega) (by decide), gI_add, e2, if_pos (show 1 < m % 12 ∧ lpN (1900 + m / 12) = true from ⟨by omega, z2⟩)]
    · rw [if_neg z2, ite_le _ _ _ _ (by omega) (by decide), e1 A, if_neg (show ¬ (1 < m % 12 ∧ lpN (1900 + m / 12) = true) from fun w => z2 w.2), Nat.add_zero]
def stp : Nat → Nat
  | 0 => 0
  | k + 1 => 2 ^ k
theorem stp_half : ∀ k, stp (k + 1) / 2 = stp k
  | 0 => rfl
  | k + 1 => by
    show 2 ^ (k + 1) / 2 = 2 ^ k
    rw [Nat.pow_succ, Nat.mul_div_cancel _ (by decide)]
theorem d_month (hs : gp_st h) (hd : gp_dy h) (d : Nat) (hdd : d < 100000000) : f_Da_monthOf (gI d) (gv_ov h S) = some (gI (sp_mo d), gv_ov h S) := by
  have loop : ∀ (k m fu : Nat), k ≤ 17 → m + 2 ^ k ≤ 131072 → k < fu → f_Da_monthOf_b5 fu (gI d) (gI m) (gI (stp k)) (gv_ov h S) = some (gI (sp_bs d k m), gv_ov h S) := by
    intro k
    induction k with
    | zero =>
      intro m fu hk hm hf
      obtain ⟨fu, rfl⟩ : ∃ f, fu = f + 1 := ⟨fu - 1, by omega⟩
      rw [f_Da_monthOf_b5]
      dsimp only
      rw [if_pos (show gI (stp 0) ≤ 0 from by decide)]
      rfl
    | succ k ih =>
      intro m fu hk hm hf
      obtain ⟨fu, rfl⟩ : ∃ f, fu = f + 1 := ⟨fu - 1, by omega⟩
      have e2 : 2 ^ (k + 1) = 2 ^ k + 2 ^ k := by rw [Nat.pow_succ]; omega
      have hp : 0 < 2 ^ k := Nat.pow_pos (by decide)
      have z0 : ∀ {β : Type} (x y : β), (if gI (stp (k + 1)) ≤ (0 : Int32) then x else y) = y := fun x y => by
        rw [show (0 : Int32) = gI 0 from rfl, ite_le _ _ (stp (k + 1)) 0 (show 2 ^ k < 2147483648 by omega) (by decide), if_neg (show ¬ stp (k + 1) ≤ 0 from show ¬ 2 ^ k ≤ 0 by omega)]
      have hfs := fsN_le (m := m + 2 ^ k) (by omega)
      rw [f_Da_monthOf_b5, sp_bs]
      unfold f_Da_monthOf_b23
      dsimp only
      rw [z0, gI_add, show m + stp (k + 1) = m + 2 ^ k from rfl, d_first hs hd _ (by omega), gk_ca_some, gk_let_eq, gk_let_eq, gk_let_eq, gI_lit 2, gI_div (stp (k + 1)) 2 (show 2 ^ k < 2147483648 by omega) (by decide) (by decide), stp_half, ite_lt _ _ _ _ (by omega) (by omega)]
      by_cases z : fsN (m + 2 ^ k) ≤ d
      · rw [if_neg (show ¬ d < fsN (m + 2 ^ k) by omega), if_pos z]
        exact ih (m + 2 ^ k) fu (by omega) (by omega) (by omega)
      · rw [if_pos (show d < fsN (m + 2 ^ k) by omega), if_neg z]
        exact ih m fu (by omega) (by omega) (by omega)
  exact loop 17 0 gk_F (Nat.le_refl _) (by decide) (by unfold gk_F; omega)
end DAY
