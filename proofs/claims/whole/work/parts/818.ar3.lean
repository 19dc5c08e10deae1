/-! THE PURE PART: divisors, the arithmetic functions (class) -/
theorem bl_z {f e : Nat} : bl f e = 0 ↔ f = 0 ∧ e = 0 := by
  unfold bl
  split <;> omega
theorem bl_p {f e : Nat} (h : f ≠ 0) : bl f e = f := if_neg h
theorem bl_n {e : Nat} : bl 0 e = e := if_pos rfl
theorem nl_x0_f (w : Int) (d : Nat) (p m : Bool) (h0 : 0 ≤ w) (h1 : w < 9223372036854775808) (hd : d ≤ 22) : fd_f (nl_x2 (nl_x1 (nl_x0 w d) p) m) := by
  have t22 : ∀ n : Fin 23, 1023 * 2 ^ 52 ≤ (fd_t n.val).toNat % 2 ^ 63 ∧ (fd_t n.val).toNat % 2 ^ 63 < 2047 * 2 ^ 52 := by decide +kernel
  have a1 : (nl_x0 w d).toNat % 2 ^ 63 < 1089 * 2 ^ 52 := by
    have hl := FP.Core.l2d_mag (gJ w)
    have hl' : (FP.l2d (gJ w)).toNat % 2 ^ 63 < 1088 * 2 ^ 52 := hl
    unfold nl_x0
    split
    · omega
    · obtain ⟨b1, b2⟩ := t22 ⟨d, by omega⟩
      have := FP.Core.ddiv_mag (a := FP.l2d (gJ w)) (b := fd_t d) (K := 1088) (L := 1023) hl' b1 b2 (by decide) (by decide)
      exact this
  have a2 : (nl_x1 (nl_x0 w d) p).toNat % 2 ^ 63 < 1090 * 2 ^ 52 := by
    unfold nl_x1
    split
    · exact FP.Core.ddiv_mag (a := nl_x0 w d) (b := 0x4059000000000000) (K := 1089) (L := 1023) a1 (by decide) (by decide) (by decide) (by decide)
    · omega
  have a3 : fd_f (nl_x1 (nl_x0 w d) p) := (FP.Core.fin_bits _).mpr (by omega)
  unfold nl_x2
  split
  · obtain ⟨b1, b2, b3⟩ := fd_neg a3.n
    exact (fd_f_k b1).mpr (by have := (fd_f_k a3.n).mp a3; omega)
  · exact a3
theorem nl_val_f {l : List Nat} (h : nl_is l = true) : fd_f (nl_val l) := by
  obtain ⟨w1, w2, w3⟩ := nl_bound (nl_is_dig h)
  exact nl_x0_f _ _ _ _ w1 (by omega) (by omega)
theorem nl_val_c {l : List Nat} (h : nl_is l = true) : fd_c (nl_val l) = nl_val l := by
  obtain ⟨w1, w2, w3⟩ := nl_bound (nl_is_dig h)
  exact (nl_x_ok (nl_fold l).1 (nl_fold l).2.1 (l.contains 37) (l.contains 45) w1 (by omega) (by omega)).2.2.2
theorem sp_num_f {c : gp_C} (h : gp_okC c) : fd_f (sp_num c).2 ∧ fd_c (sp_num c).2 = (sp_num c).2 := by
  unfold sp_num
  split
  · exact ⟨h.2.1, h.2.2.1⟩
  · split
    · split
      · rename_i e
        exact ⟨nl_val_f e, nl_val_c e⟩
      · exact ⟨fd_f0, rfl⟩
    · split
      · rename_i e
        refine ⟨fd_i2df _, ?_⟩
        have := h.2.2.2.2.1 e
        have hb : ∀ n : Fin 2, fd_c (FP.i2d (gI n.val)) = FP.i2d (gI n.val) := by decide +kernel
        exact hb ⟨c.2.1, by omega⟩
      · exact ⟨fd_f0, rfl⟩
theorem sp_who_err {c : gp_C} (h : gp_okC c) (he : (sp_num c).1 ≠ 0) : sp_who c = ((sp_num c).1, 0) := by
  have h2 : (sp_num c).2 = 0 := by
    unfold sp_num at he ⊢
    split
    · rename_i q
      rw [if_pos q] at he
      exact absurd rfl he
    · rename_i q
      rw [if_neg q] at he
      split
      · rename_i q2
        rw [if_pos q2] at he
        split
        · rename_i q3
          rw [if_pos q3] at he
          exact absurd rfl he
        · rfl
      · rename_i q2
        rw [if_neg q2] at he
        split
        · rename_i q3
          rw [if_pos q3] at he
          exact absurd rfl he
        · rfl
  unfold sp_who
  have hz : FP.d2l 0 = 0 := by decide +kernel
  rw [h2, fd_k0, if_pos (by decide), hz]
/-- an error, or what was reckoned -/
def sx (e : Nat) (c : gp_C) : gp_C := if e = 0 then c else gc_e e
theorem m_gcdT : ∀ (k fu s : Nat) (x y : Int64) (h : gk_H), s + k = 200 → k < fu → ∃ g, f_Am_commonDivisor_b9 fu x y (gI s) h = some (g, h) := by
  intro k
  induction k with
  | zero =>
    intro fu s x y h hs hf
    obtain ⟨fu, rfl⟩ : ∃ f, fu = f + 1 := ⟨fu - 1, by omega⟩
    rw [f_Am_commonDivisor_b9]
    dsimp only
    rw [gI_lit 200, ite_le _ _ _ _ (by decide) (by omega), if_pos (by omega)]
    exact ⟨x, rfl⟩
  | succ k ih =>
    intro fu s x y h hs hf
    obtain ⟨fu, rfl⟩ : ∃ f, fu = f + 1 := ⟨fu - 1, by omega⟩
    rw [f_Am_commonDivisor_b9]
    dsimp only
    rw [gI_lit 200, ite_le _ _ _ _ (by decide) (by omega), if_neg (by omega)]
    by_cases z : y = 0
    · rw [if_pos ((lg_cmp_eq y 0).mpr z)]
      exact ⟨x, rfl⟩
    · rw [if_neg (fun q => z ((lg_cmp_eq y 0).mp q)), if_neg z, gk_let_eq, gk_let_eq, gI_1, gI_add]
      exact ih fu (s + 1) _ _ h (by omega) (by omega)
theorem gJ_mod (x y : Nat) (hx : x < 9223372036854775808) (hy : y < 9223372036854775808) (h0 : 0 < y) : gJ (x : Int) - gJ (x : Int) / gJ (y : Int) * gJ (y : Int) = gJ ((x % y : Nat) : Int) := by
  rw [gJ_div _ _ (by omega) (by omega) (by omega) (by omega), gJ_mul, gJ_sub]
  congr 1
  have h1 := Nat.div_add_mod x y
  rw [Nat.mul_comm] at h1
  have h2 : (x : Int) / (y : Int) * (y : Int) = ((x / y * y : Nat) : Int) := by rw [Int.natCast_mul, Int.natCast_ediv]
  omega
theorem gJ_nz {y : Nat} (h0 : 0 < y) (hy : y < 9223372036854775808) : gJ (y : Int) ≠ 0 := fun z => by
  have := gJ_eq (y : Int) 0 (by omega) (by omega) (by decide) (by decide)
  rw [z] at this
  have h2 : (y : Int) = 0 := this.mp rfl
  omega
theorem m_gcdN : ∀ (j fu s x y : Nat) (h : gk_H), y < 2 ^ j → s + 2 * j ≤ 198 → 2 * j + 1 < fu → x < 9007199254740992 → y < 9007199254740992 → f_Am_commonDivisor_b9 fu (gJ (x : Int)) (gJ (y : Int)) (gI s) h = some (gJ ((Nat.gcd x y : Nat) : Int), h) := by
  intro j
  induction j with
  | zero =>
    intro fu s x y h hy hs hf hx hy2
    obtain ⟨fu, rfl⟩ : ∃ f, fu = f + 1 := ⟨fu - 1, by omega⟩
    have : y = 0 := by have h2 : y < 1 := hy; omega
    subst this
    rw [f_Am_commonDivisor_b9]
    dsimp only
    rw [gI_lit 200, ite_le _ _ _ _ (by decide) (by omega), if_neg (by omega), if_pos ((lg_cmp_eq (gJ ((0 : Nat) : Int)) 0).mpr rfl), Nat.gcd_zero_right]
    rfl
  | succ j ih =>
    intro fu s x y h hy hs hf hx hy2
    obtain ⟨fu, rfl⟩ : ∃ f, fu = f + 1 + 1 := ⟨fu - 2, by omega⟩
    have h2j : 2 ^ (j + 1) = 2 ^ j * 2 := Nat.pow_succ 2 j
    rw [f_Am_commonDivisor_b9]
    dsimp only
    rw [gI_lit 200, ite_le _ _ _ _ (by decide) (by omega), if_neg (by omega)]
    by_cases z : y = 0
    · rw [if_pos ((lg_cmp_eq _ _).mpr (by rw [z]; rfl)), z, Nat.gcd_zero_right]
      rfl
    · have hnz := gJ_nz (y := y) (by omega) (by omega)
      rw [if_neg (fun q => hnz ((lg_cmp_eq _ _).mp q)), if_neg hnz, gk_let_eq, gk_let_eq, gI_1, gI_add, gJ_mod x y (by omega) (by omega) (by omega)]
      have hr : x % y < y := Nat.mod_lt _ (by omega)
      rw [f_Am_commonDivisor_b9]
      dsimp only
      rw [gI_lit 200, ite_le _ _ _ _ (by decide) (by omega), if_neg (by omega)]
      have hg : Nat.gcd x y = Nat.gcd y (x % y) := by
        rw [Nat.gcd_comm x y, Nat.gcd_rec y x, Nat.gcd_comm]
      by_cases z2 : x % y = 0
      · rw [if_pos ((lg_cmp_eq _ _).mpr (by rw [z2]; rfl)), hg, z2, Nat.gcd_zero_right]
        rfl
      · have hnz2 := gJ_nz (y := x % y) (by omega) (by omega)
        rw [if_neg (fun q => hnz2 ((lg_cmp_eq _ _).mp q)), if_neg hnz2, gk_let_eq, gk_let_eq, gI_1, gI_add, gJ_mod y (x % y) (by omega) (by omega) (by omega)]
        have hr2 : y % (x % y) < x % y := Nat.mod_lt _ (by omega)
        have hhalf : y % (x % y) < 2 ^ j := by
          have hdm := Nat.div_add_mod y (x % y)
          have hd : 1 ≤ y / (x % y) := (Nat.le_div_iff_mul_le (by omega)).mpr (by omega)
          have : x % y * 1 ≤ x % y * (y / (x % y)) := Nat.mul_le_mul_left _ hd
          omega
        have hg2 : Nat.gcd y (x % y) = Nat.gcd (x % y) (y % (x % y)) := by
          rw [Nat.gcd_comm y, Nat.gcd_rec (x % y) y, Nat.gcd_comm]
        rw [ih fu (s + 1 + 1) (x % y) (y % (x % y)) h hhalf (by omega) (by omega) (by omega) (by omega), hg, hg2]
theorem m_gcd (x y : Nat) (hx : x < 9007199254740992) (hy : y < 9007199254740992) (h : gk_H) : f_Am_commonDivisor (gJ (x : Int)) (gJ (y : Int)) h = some (gJ ((Nat.gcd x y : Nat) : Int), h) :=
  m_gcdN 53 gk_F 0 x y h (Nat.lt_of_lt_of_le hy (by decide)) (by decide) (by unfold gk_F; omega) hx hy
/-- whole numbers wanted of all arguments -/
def sw_x (vs : Nat → gp_V) (k : Nat) : Int := (sp_who (sp_1 (vs k))).2.toInt
def sw_err (vs : Nat → gp_V) : Nat → Nat
  | 0 => 0
  | k + 1 => bl (sw_err vs k) (sp_who (sp_1 (vs k))).1
def sw_b (vs : Nat → gp_V) : Nat → Bool
  | 0 => false
  | k + 1 => sw_b vs k || decide (sw_x vs k < 0)
def sw_z (vs : Nat → gp_V) : Nat → Bool
  | 0 => false
  | k + 1 => sw_z vs k || decide (sw_x vs k = 0)
def sw_g (vs : Nat → gp_V) : Nat → Nat
  | 0 => 0
  | k + 1 => Nat.gcd (sw_g vs k) (sw_x vs k).toNat
def sw_l (vs : Nat → gp_V) : Nat → Option Nat
  | 0 => some 1
  | k + 1 => match sw_l vs k with
    | none => none
    | some l => if l * ((sw_x vs k).toNat / Nat.gcd l (sw_x vs k).toNat) ≤ 9007199254740991 then some (l * ((sw_x vs k).toNat / Nat.gcd l (sw_x vs k).toNat)) else none
def sp_div (f : Nat) (vs : Nat → gp_V) (n : Nat) : gp_C :=
  if sw_b vs n = true then gc_e 6 else if f = 25 then gc_n (FP.l2d (gJ (sw_g vs n : Int))) else if sw_z vs n = true then gc_n 0 else match sw_l vs n with
    | none => gc_e 6
    | some l => gc_n (FP.l2d (gJ (l : Int)))
theorem sw_x_b {vs : Nat → gp_V} {k : Nat} (h : gp_okV (vs k)) : -9007199254740992 < sw_x vs k ∧ sw_x vs k < 9007199254740992 ∧ (sp_who (sp_1 (vs k))).2 = gJ (sw_x vs k) ∧ ((sp_who (sp_1 (vs k))).1 ≠ 0 → sw_x vs k = 0) := by
  have hok := sp_1_ok h
  have hz : FP.d2l 0 = 0 := by decide +kernel
  have e0 : (sp_who (sp_1 (vs k))).2 = gJ (sw_x vs k) := (gJ_self _).symm
  have key : -9007199254740992 < (sp_who (sp_1 (vs k))).2.toInt ∧ (sp_who (sp_1 (vs k))).2.toInt < 9007199254740992 ∧ ((sp_who (sp_1 (vs k))).1 ≠ 0 → (sp_who (sp_1 (vs k))).2.toInt = 0) := by
    by_cases he : (sp_num (sp_1 (vs k))).1 = 0
    · unfold sp_who
      split
      · rename_i hb
        have hn := (sp_num_f hok).1.n
        have hT := fd_b_T hn hb
        have := (fd_d2l hn (by omega) (by omega)).2
        refine ⟨by rw [this]; exact hT.1, by rw [this]; exact hT.2, fun q => absurd he q⟩
      · exact ⟨by decide, by decide, fun _ => rfl⟩
    · rw [sp_who_err hok he]
      exact ⟨show -9007199254740992 < (0 : Int64).toInt from by decide, show (0 : Int64).toInt < 9007199254740992 from by decide, fun _ => rfl⟩
  exact ⟨key.1, key.2.1, e0, key.2.2⟩
theorem sw_ez {vs : Nat → gp_V} : ∀ n, (∀ k, k < n → gp_okV (vs k)) → sw_err vs n ≠ 0 → sw_z vs n = true
  | 0, _, h => absurd rfl h
  | n + 1, hok, h => by
    unfold sw_err at h
    unfold sw_z
    by_cases z : sw_err vs n = 0
    · have h2 : (sp_who (sp_1 (vs n))).1 ≠ 0 := fun q => h (by rw [z, q]; rfl)
      rw [decide_eq_true ((sw_x_b (hok n (by omega))).2.2.2 h2), Bool.or_true]
    · rw [sw_ez n (fun k hk => hok k (by omega)) z, Bool.true_or]
theorem sw_err_le {vs : Nat → gp_V} : ∀ n, (∀ k, k < n → gp_okV (vs k)) → sw_err vs n ≤ 8
  | 0, _ => Nat.zero_le _
  | n + 1, h => bl_le (sw_err_le n fun k hk => h k (by omega)) (sp_who_le (sp_1_ok (h n (by omega))))
theorem sw_late {vs : Nat → gp_V} {n : Nat} : ∀ m k, k + m = n → sw_err vs n = 0 → sw_err vs k = 0
  | 0, k, hk, h => by rw [show k = n from by omega]; exact h
  | m + 1, k, hk, h => by
    have := sw_late m (k + 1) (by omega) h
    unfold sw_err at this
    exact (bl_z.mp this).1
theorem sw_z_late {vs : Nat → gp_V} {n : Nat} : ∀ m k, k + m = n → sw_z vs n = false → sw_z vs k = false
  | 0, k, hk, h => by rw [show k = n from by omega]; exact h
  | m + 1, k, hk, h => by
    have := sw_z_late m (k + 1) (by omega) h
    unfold sw_z at this
    exact (Bool.or_eq_false_iff.mp this).1
theorem sw_b_late {vs : Nat → gp_V} {n : Nat} : ∀ m k, k + m = n → sw_b vs n = false → sw_b vs k = false
  | 0, k, hk, h => by rw [show k = n from by omega]; exact h
  | m + 1, k, hk, h => by
    have := sw_b_late m (k + 1) (by omega) h
    unfold sw_b at this
    exact (Bool.or_eq_false_iff.mp this).1
theorem sw_g_b {vs : Nat → gp_V} : ∀ n, (∀ k, k < n → gp_okV (vs k)) → sw_g vs n < 9007199254740992
  | 0, _ => by
    show 0 < 9007199254740992
    decide
  | n + 1, hok => by
    have ih := sw_g_b n fun k hk => hok k (by omega)
    obtain ⟨b1, b2, -⟩ := sw_x_b (hok n (by omega))
    unfold sw_g
    by_cases z : (sw_x vs n).toNat = 0
    · rw [z, Nat.gcd_zero_right]
      exact ih
    · have := Nat.gcd_le_right (sw_g vs n) (n := (sw_x vs n).toNat) (by omega)
      omega
theorem sw_l_b {vs : Nat → gp_V} : ∀ n l, (∀ k, k < n → gp_okV (vs k)) → sw_z vs n = false → sw_b vs n = false → sw_l vs n = some l → 1 ≤ l ∧ l ≤ 9007199254740991
  | 0, l, _, _, _, h => by
    have : some 1 = some l := h
    injection this with this
    omega
  | n + 1, l, hok, hz, hb, h => by
    have hz' := sw_z_late 1 n rfl hz
    have hb' := sw_b_late 1 n rfl hb
    unfold sw_l at h
    cases e : sw_l vs n with
    | none => rw [e] at h; cases h
    | some l0 =>
      rw [e] at h
      dsimp only at h
      obtain ⟨i1, i2⟩ := sw_l_b n l0 (fun k hk => hok k (by omega)) hz' hb' e
      split at h
      · rename_i q
        injection h with h
        have hx0 : 0 < (sw_x vs n).toNat := by
          unfold sw_z at hz
          unfold sw_b at hb
          have a1 := of_decide_eq_false (Bool.or_eq_false_iff.mp hz).2
          have a2 := of_decide_eq_false (Bool.or_eq_false_iff.mp hb).2
          omega
        have hd := Nat.gcd_dvd_right l0 (sw_x vs n).toNat
        have hq : 0 < (sw_x vs n).toNat / Nat.gcd l0 (sw_x vs n).toNat := Nat.div_pos (Nat.le_of_dvd hx0 hd) (Nat.gcd_pos_of_pos_right _ hx0)
        have := Nat.mul_pos (show 0 < l0 by omega) hq
        omega
      · cases h
section AR3
variable {b : Nat} {h : gk_H} {S : gv_S} {vs : Nat → gp_V} {n f : Nat} {row : List UInt64}
theorem a_wholeK (a : ga b h S vs n) (hs : gp_st h) (k : Nat) (hk : k < n) (hf : f ≤ 8) : f_Ar_whole (some 20) (gI k) (gv_ov h (gA S f row)) = some (gJ (sw_x vs k), gv_ov h (gA S (bl f (sp_who (sp_1 (vs k))).1) row)) := by
  rw [← (sw_x_b (a.ok k hk)).2.2.1]
  exact a_whole a hs k hk hf
theorem m_lcm (a : ga b h S vs n) (hc : gp_cs b h) (he : sw_err vs n = 0) (hz : sw_z vs n = false) (hb : sw_b vs n = false) : ∀ (m k fu l : Nat), k + m = n → m < fu → sw_l vs k = some l → vR b h (gA S 0 row) (f_Am_commonMultiple_b4 fu (some 20) (gJ (l : Int)) (gI k) (gv_ov h (gA S 0 row))) (match sw_l vs n with | none => gc_e 6 | some l => gc_n (FP.l2d (gJ (l : Int)))) := by
  have hn := a.1
  intro m
  induction m with
  | zero =>
    intro k fu l hk hf hl
    obtain ⟨fu, rfl⟩ : ∃ f, fu = f + 1 := ⟨fu - 1, by omega⟩
    have hkn : k = n := by omega
    subst hkn
    rw [f_Am_commonMultiple_b4]
    dsimp only
    rw [gc_20, a_many a, gk_ca_some, ite_le _ _ _ _ (by omega) (by omega), if_pos (Nat.le_refl _), ca_id, hl]
    exact vr_n hc (fd_l2df _)
  | succ m ih =>
    intro k fu l hk hf hl
    obtain ⟨fu, rfl⟩ : ∃ f, fu = f + 1 := ⟨fu - 1, by omega⟩
    have hokk := fun j (hj : j < k) => a.ok j (show j < n by omega)
    have hz' := sw_z_late (vs := vs) (n := n) m (k + 1) (by omega) hz
    have hb' := sw_b_late (vs := vs) (n := n) m (k + 1) (by omega) hb
    have he' := sw_late (vs := vs) (n := n) m (k + 1) (by omega) he
    have hz0 := sw_z_late (vs := vs) (n := n) (m + 1) k (by omega) hz
    have hb0 := sw_b_late (vs := vs) (n := n) (m + 1) k (by omega) hb
    obtain ⟨l1, l2⟩ := sw_l_b k l hokk hz0 hb0 hl
    obtain ⟨x1, x2, x3, x4⟩ := sw_x_b (a.ok k (show k < n by omega))
    unfold sw_z at hz'
    unfold sw_b at hb'
    unfold sw_err at he'
    have y1 := of_decide_eq_false (Bool.or_eq_false_iff.mp hz').2
    have y2 := of_decide_eq_false (Bool.or_eq_false_iff.mp hb').2
    have y3 := (bl_z.mp he').2
    have hx0 : 0 < (sw_x vs k).toNat := by omega
    have hxe : sw_x vs k = ((sw_x vs k).toNat : Int) := by omega
    have hgp : 0 < Nat.gcd l (sw_x vs k).toNat := Nat.gcd_pos_of_pos_right _ hx0
    have hgl : Nat.gcd l (sw_x vs k).toNat ≤ (sw_x vs k).toNat := Nat.gcd_le_right _ hx0
    have hq : 0 < (sw_x vs k).toNat / Nat.gcd l (sw_x vs k).toNat := Nat.div_pos hgl hgp
    have hql : (sw_x vs k).toNat / Nat.gcd l (sw_x vs k).toNat ≤ (sw_x vs k).toNat := Nat.div_le_self _ _
    have hnz := gJ_nz hgp (by omega)
    rw [f_Am_commonMultiple_b4]
    dsimp only
    rw [gc_20, a_many a, gk_ca_some, ite_le _ _ _ _ (by omega) (by omega), if_neg (show ¬ n ≤ k by omega), gc_20, a_wholeK a hc.1 k (by omega) (by decide), y3, gk_ca_some]
    show vR b h (gA S 0 row) (gk_ca (f_Am_commonDivisor (gJ (l : Int)) (gJ (sw_x vs k)) (gv_ov h (gA S 0 row))) _) _
    rw [hxe, m_gcd l _ (by omega) (by omega), gk_ca_some]
    rw [if_neg (fun q => hnz ((lg_cmp_eq _ _).mp q)), if_neg hnz]
    rw [gJ_div _ _ (by omega) (by omega) (by omega) (by omega)]
    have hqe : ((sw_x vs k).toNat : Int) / ((Nat.gcd l (sw_x vs k).toNat : Nat) : Int) = (((sw_x vs k).toNat / Nat.gcd l (sw_x vs k).toNat : Nat) : Int) := (Int.natCast_ediv _ _).symm
    rw [hqe]
    generalize hQ : (sw_x vs k).toNat / Nat.gcd l (sw_x vs k).toNat = Q at hq hql
    unfold f_Am_commonMultiple_b43 f_Am_commonMultiple_b63
    have hqnz := gJ_nz hq (by omega)
    rw [show (1 : Int64) = gJ 1 from rfl, jte_lt _ _ _ _ (by omega) (by omega) (by decide) (by decide), if_neg (show ¬ (Q : Int) < 1 by omega), if_neg hqnz, show (9007199254740991 : Int64) = gJ 9007199254740991 from rfl, gJ_div _ _ (by decide) (by decide) (by omega) (by omega)]
    have hde : (9007199254740991 : Int) / (Q : Int) = ((9007199254740991 / Q : Nat) : Int) := (Int.natCast_ediv 9007199254740991 Q).symm
    have hdl : 9007199254740991 / Q ≤ 9007199254740991 := Nat.div_le_self _ _
    have hiff : l ≤ 9007199254740991 / Q ↔ l * Q ≤ 9007199254740991 := Nat.le_div_iff_mul_le hq
    rw [hde]
    generalize 9007199254740991 / Q = D at hiff hdl
    rw [jte_le _ _ _ _ (by omega) (by omega) (by omega) (by omega)]
    have hnext : sw_l vs (k + 1) = if l * Q ≤ 9007199254740991 then some (l * Q) else none := by
      show (match sw_l vs k with | none => none | some l => _) = _
      rw [hl]
      dsimp only
      rw [hQ]
    by_cases c : l * Q ≤ 9007199254740991
    · rw [if_pos (show (l : Int) ≤ (D : Int) by have := hiff.mpr c; omega), gk_let_eq, gk_let_eq, gJ_mul, gI_1, gI_add]
      rw [if_pos c] at hnext
      have hm : (l : Int) * (Q : Int) = ((l * Q : Nat) : Int) := (Int.natCast_mul l Q).symm
      rw [hm]
      exact ih (k + 1) fu (l * Q) (by omega) (by omega) hnext
    · rw [if_neg (show ¬ (l : Int) ≤ (D : Int) by
        intro q
        exact c (hiff.mp (by omega))), ca_id]
      rw [if_neg c] at hnext
      have hall : ∀ m' k', k' + m' = n → sw_l vs k' = none → sw_l vs n = none := by
        intro m'
        induction m' with
        | zero => intro k' hk' h'; rw [show n = k' from by omega]; exact h'
        | succ m' ih' =>
          intro k' hk' h'
          refine ih' (k' + 1) (by omega) ?_
          show (match sw_l vs k' with | none => none | some l => _) = _
          rw [h']
      rw [hall m (k + 1) (by omega) hnext]
      exact vr_err hc 6 (by decide) (by decide)
theorem m_ofDivisors (a : ga b h S vs n) (hc : gp_cs b h) (hf : f = 25 ∨ f = 26) : ∃ r h' c, f_Am_ofDivisors (gI f) (some 20) (gv_ov h (gA S 0 row)) = some (some r, gv_ov h' (gA S (sw_err vs n) row)) ∧ gp_cell b h' r c ∧ gp_ext 1 7 h h' ∧ (sw_err vs n = 0 → c = sp_div f vs n) := by
  have hn := a.1
  have loop : ∀ (m k fu : Nat) (g : Int64), k + m = n → m < fu → (sw_err vs k = 0 → sw_b vs k = false → g = gJ (sw_g vs k : Int)) → ∃ r h' c, f_Am_ofDivisors_b10 fu (gI f) (some 20) (gB (sw_b vs k)) (gB (sw_z vs k)) g (gI k) (gv_ov h (gA S (sw_err vs k) row)) = some (some r, gv_ov h' (gA S (sw_err vs n) row)) ∧ gp_cell b h' r c ∧ gp_ext 1 7 h h' ∧ (sw_err vs n = 0 → c = sp_div f vs n) := by
    intro m
    induction m with
    | zero =>
      intro k fu g hk hf2 hg
      obtain ⟨fu, rfl⟩ : ∃ f, fu = f + 1 := ⟨fu - 1, by omega⟩
      have hkn : k = n := by omega
      subst hkn
      rw [f_Am_ofDivisors_b10]
      dsimp only
      unfold f_Am_ofDivisors_b114 sp_div
      simp only [ca_id]
      rw [gc_20, a_many a, gk_ca_some, ite_le _ _ _ _ (by omega) (by omega), if_pos (Nat.le_refl _), ite_B, ite_B]
      by_cases c1 : sw_b vs k = true
      · rw [if_pos c1, if_pos c1]
        obtain ⟨r, h', q1, q2, q3⟩ := vr_err (S := gA S (sw_err vs k) row) hc 6 (by decide) (by decide)
        exact ⟨r, h', _, q1, q2, q3, fun _ => rfl⟩
      · rw [if_neg c1, if_neg c1]
        have c1' : sw_b vs k = false := Bool.eq_false_iff.mpr c1
        rw [gI_lit 25, ite_eq _ _ _ _ (by omega) (by decide)]
        by_cases c2 : f = 25
        · rw [if_pos c2, if_pos c2]
          obtain ⟨r, h', q1, q2, q3⟩ := vr_n (S := gA S (sw_err vs k) row) hc (fd_l2df g)
          exact ⟨r, h', _, q1, q2, q3, fun e => by rw [hg e c1']⟩
        · rw [if_neg c2, if_neg c2]
          by_cases c3 : sw_z vs k = true
          · rw [if_pos c3, if_pos c3]
            obtain ⟨r, h', q1, q2, q3⟩ := vr_n (S := gA S (sw_err vs k) row) hc fd_f0
            exact ⟨r, h', _, q1, q2, q3, fun _ => rfl⟩
          · rw [if_neg c3, if_neg c3]
            have c3' : sw_z vs k = false := Bool.eq_false_iff.mpr c3
            have he : sw_err vs k = 0 := Classical.not_not.mp fun q => by
              have := sw_ez k a.ok q
              rw [c3'] at this
              cases this
            rw [he]
            obtain ⟨r, h', q1, q2, q3⟩ := m_lcm (row := row) a hc he c3' c1' k 0 gk_F 1 (by omega) (by unfold gk_F; omega) rfl
            exact ⟨r, h', _, q1, q2, q3, fun _ => rfl⟩
    | succ m ih =>
      intro k fu g hk hf2 hg
      obtain ⟨fu, rfl⟩ : ∃ f, fu = f + 1 := ⟨fu - 1, by omega⟩
      obtain ⟨x1, x2, x3, x4⟩ := sw_x_b (a.ok k (show k < n by omega))
      have hel := sw_err_le k fun j hj => a.ok j (show j < n by omega)
      rw [f_Am_ofDivisors_b10]
      dsimp only
      rw [gc_20, a_many a, gk_ca_some, ite_le _ _ _ _ (by omega) (by omega), if_neg (show ¬ n ≤ k by omega), gc_20, a_wholeK a hc.1 k (by omega) hel, gk_ca_some, ite_B, show (0 : Int64) = gJ 0 from rfl, jte_ge _ _ _ _ (by omega) (by omega) (by decide) (by decide)]
      -- the divisor
      obtain ⟨g', hg'⟩ := m_gcdT 200 gk_F 0 g (gJ (sw_x vs k)) (gv_ov h (gA S (bl (sw_err vs k) (sp_who (sp_1 (vs k))).1) row)) (by decide) (by unfold gk_F; decide)
      have hg2 : f_Am_commonDivisor g (gJ (sw_x vs k)) (gv_ov h (gA S (bl (sw_err vs k) (sp_who (sp_1 (vs k))).1) row)) = some (g', gv_ov h (gA S (bl (sw_err vs k) (sp_who (sp_1 (vs k))).1) row)) := hg'
      have hgg : sw_err vs (k + 1) = 0 → sw_b vs (k + 1) = false → g' = gJ (sw_g vs (k + 1) : Int) := by
        intro e1 e2
        have e1' := sw_late (vs := vs) (n := k + 1) 1 k rfl e1
        have e2' := sw_b_late (vs := vs) (n := k + 1) 1 k rfl e2
        unfold sw_b at e2
        have y2 := of_decide_eq_false (Bool.or_eq_false_iff.mp e2).2
        have hgb := sw_g_b k fun j hj => a.ok j (show j < n by omega)
        have := m_gcd (sw_g vs k) (sw_x vs k).toNat hgb (by omega) (gv_ov h (gA S (bl (sw_err vs k) (sp_who (sp_1 (vs k))).1) row))
        rw [show ((sw_x vs k).toNat : Int) = sw_x vs k from by omega, ← hg e1' e2', hg2] at this
        injection this with this
        exact congrArg Prod.fst this
      have b60 : ∀ b1 : Bool, b1 = sw_b vs (k + 1) → ∀ zz : Bool, zz = sw_z vs (k + 1) → ∃ r h' c, f_Am_ofDivisors_b60 (f_Am_ofDivisors_b10 fu) (gI f) (some 20) (gB b1) g (gI k) (gJ (sw_x vs k)) (gB zz) (gv_ov h (gA S (bl (sw_err vs k) (sp_who (sp_1 (vs k))).1) row)) = some (some r, gv_ov h' (gA S (sw_err vs n) row)) ∧ gp_cell b h' r c ∧ gp_ext 1 7 h h' ∧ (sw_err vs n = 0 → c = sp_div f vs n) := by
        intro b1 hb1 zz hzz
        unfold f_Am_ofDivisors_b60
        rw [hg2, gk_ca_some, gk_let_eq, gI_1, gI_add, hb1, hzz]
        exact ih (k + 1) fu g' (by omega) (by omega) hgg
      have b43 : ∀ b1 : Bool, b1 = sw_b vs (k + 1) → ∃ r h' c, f_Am_ofDivisors_b43 (f_Am_ofDivisors_b10 fu) (gI f) (some 20) (gB (sw_z vs k)) g (gI k) (gJ (sw_x vs k)) (gB b1) (gv_ov h (gA S (bl (sw_err vs k) (sp_who (sp_1 (vs k))).1) row)) = some (some r, gv_ov h' (gA S (sw_err vs n) row)) ∧ gp_cell b h' r c ∧ gp_ext 1 7 h h' ∧ (sw_err vs n = 0 → c = sp_div f vs n) := by
        intro b1 hb1
        unfold f_Am_ofDivisors_b43 f_Am_ofDivisors_b55
        rw [ite_B, show (0 : Int64) = gJ 0 from rfl, jte_eq _ _ _ _ (by omega) (by omega) (by decide) (by decide)]
        have hzd : sw_z vs (k + 1) = (sw_z vs k || decide (sw_x vs k = 0)) := rfl
        by_cases z1 : sw_z vs k = true
        · rw [if_pos z1]
          exact b60 b1 hb1 true (by rw [hzd, z1]; rfl)
        · rw [if_neg z1]
          have z1' := Bool.eq_false_iff.mpr z1
          by_cases z2 : sw_x vs k = 0
          · rw [if_pos z2]
            exact b60 b1 hb1 true (by rw [hzd, decide_eq_true z2, Bool.or_true])
          · rw [if_neg z2]
            exact b60 b1 hb1 false (by rw [hzd, z1', decide_eq_false z2]; rfl)
      have hbd : sw_b vs (k + 1) = (sw_b vs k || decide (sw_x vs k < 0)) := rfl
      unfold f_Am_ofDivisors_b38
      by_cases z1 : sw_b vs k = true
      · rw [if_pos z1]
        exact b43 true (by rw [hbd, z1]; rfl)
      · rw [if_neg z1]
        have z1' := Bool.eq_false_iff.mpr z1
        by_cases z2 : sw_x vs k < 0
        · rw [if_neg (show ¬ 0 ≤ sw_x vs k by omega)]
          exact b43 true (by rw [hbd, decide_eq_true z2, Bool.or_true])
        · rw [if_pos (show 0 ≤ sw_x vs k by omega)]
          exact b43 false (by rw [hbd, z1', decide_eq_false z2]; rfl)
  unfold f_Am_ofDivisors
  exact loop n 0 gk_F 0 (by omega) (by unfold gk_F; omega) (fun _ _ => rfl)
end AR3
