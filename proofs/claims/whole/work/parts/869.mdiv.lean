/-! THE PURE PART: the reference's divisors; its functions of numbers (19 to 34) -/
theorem mdv_N : ∀ (j fu x y : Nat) (h : gk_H), y < 2 ^ j → 2 * j + 1 < fu → x < 9007199254740992 → y < 9007199254740992 → f_M_divisor_b6 fu (gJ (x : Int)) (gJ (y : Int)) h = some (gJ ((Nat.gcd x y : Nat) : Int), h) := by
  intro j
  induction j with
  | zero =>
    intro fu x y h hy hf hx hy2
    obtain ⟨fu, rfl⟩ : ∃ f, fu = f + 1 := ⟨fu - 1, by omega⟩
    have : y = 0 := by have h2 : y < 1 := hy; omega
    subst this
    rw [f_M_divisor_b6]
    dsimp only
    rw [show (0 : Int64) = gJ 0 from rfl, jte_le _ _ _ _ (by decide) (by decide) (by decide) (by decide), if_pos (by decide), Nat.gcd_zero_right]
  | succ j ih =>
    intro fu x y h hy hf hx hy2
    obtain ⟨fu, rfl⟩ : ∃ f, fu = f + 1 + 1 := ⟨fu - 2, by omega⟩
    have h2j : 2 ^ (j + 1) = 2 ^ j * 2 := Nat.pow_succ 2 j
    have c0 : (0 : Int64) = gJ 0 := rfl
    rw [f_M_divisor_b6]
    dsimp only
    by_cases z : y = 0
    · rw [z, c0, jte_le _ _ _ _ (by omega) (by omega) (by decide) (by decide), if_pos (by omega), Nat.gcd_zero_right]
    · have hnz := gJ_nz (y := y) (by omega) (by omega)
      rw [if_neg hnz, c0, jte_le _ _ _ _ (by omega) (by omega) (by decide) (by decide), if_neg (by omega), gk_let_eq, gJ_mod x y (by omega) (by omega) (by omega)]
      have hr : x % y < y := Nat.mod_lt _ (by omega)
      rw [f_M_divisor_b6]
      dsimp only
      have hg : Nat.gcd x y = Nat.gcd y (x % y) := by
        rw [Nat.gcd_comm x y, Nat.gcd_rec y x, Nat.gcd_comm]
      by_cases z2 : x % y = 0
      · rw [c0, jte_le _ _ _ _ (by omega) (by omega) (by decide) (by decide), if_pos (by omega), hg, z2, Nat.gcd_zero_right]
      · have hnz2 := gJ_nz (y := x % y) (by omega) (by omega)
        rw [if_neg hnz2, c0, jte_le _ _ _ _ (by omega) (by omega) (by decide) (by decide), if_neg (by omega), gk_let_eq, gJ_mod y (x % y) (by omega) (by omega) (by omega)]
        have hr2 : y % (x % y) < x % y := Nat.mod_lt _ (by omega)
        have hhalf : y % (x % y) < 2 ^ j := by
          have hdm := Nat.div_add_mod y (x % y)
          have hd : 1 ≤ y / (x % y) := (Nat.le_div_iff_mul_le (by omega)).mpr (by omega)
          have : x % y * 1 ≤ x % y * (y / (x % y)) := Nat.mul_le_mul_left _ hd
          omega
        have hg2 : Nat.gcd y (x % y) = Nat.gcd (x % y) (y % (x % y)) := by
          rw [Nat.gcd_comm y, Nat.gcd_rec (x % y) y, Nat.gcd_comm]
        rw [ih fu (x % y) (y % (x % y)) h hhalf (by omega) (by omega) (by omega), hg, hg2]
theorem mo_gcd (x y : Nat) (hx : x < 9007199254740992) (hy : y < 9007199254740992) (h : gk_H) : f_M_divisor (gJ (x : Int)) (gJ (y : Int)) h = some (gJ ((Nat.gcd x y : Nat) : Int), h) := mdv_N 53 gk_F x y h (Nat.lt_of_lt_of_le hy (by decide)) (by unfold gk_F; omega) hx hy
theorem ar_19 (vs : Nat → gp_V) (n : Nat) : sp_ar 19 vs n = sx (sN vs 0).1 (gc_n (wr_y (sN vs 0).2)) := by
  unfold sp_ar
  rw [if_pos (by decide)]
theorem ar_20 (vs : Nat → gp_V) (n : Nat) : sp_ar 20 vs n = sx (sN vs 0).1 (gc_n (FP.i2d (gN (s_sg (sN vs 0).2)))) := by
  unfold sp_ar
  rw [if_neg (by decide), if_pos (by decide)]
theorem ar_21 (vs : Nat → gp_V) (n : Nat) : sp_ar 21 vs n = sx (sN vs 0).1 (gc_n (s_fl (sN vs 0).2)) := by
  unfold sp_ar
  rw [if_neg (by decide), if_neg (by decide), if_pos (by decide)]
theorem ar_22 (vs : Nat → gp_V) (n : Nat) : sp_ar 22 vs n = sx (bl (sN vs 0).1 (sN vs 1).1) (sp_pow (sN vs 0).2 (sN vs 1).2) := by
  unfold sp_ar
  rw [if_neg (by decide), if_neg (by decide), if_neg (by decide), if_pos (by decide)]
theorem ar_23 (vs : Nat → gp_V) (n : Nat) : sp_ar 23 vs n = sx (bl (sN vs 0).1 (sN vs 1).1) (sp_mod (sN vs 0).2 (sN vs 1).2) := by
  unfold sp_ar
  rw [if_neg (by decide), if_neg (by decide), if_neg (by decide), if_neg (by decide), if_pos (by decide)]
theorem ar_24 (vs : Nat → gp_V) (n : Nat) : sp_ar 24 vs n = sx (bl (sN vs 0).1 (sN vs 1).1) (sp_quo (sN vs 0).2 (sN vs 1).2) := by
  unfold sp_ar
  rw [if_neg (by decide), if_neg (by decide), if_neg (by decide), if_neg (by decide), if_neg (by decide), if_pos (by decide)]
theorem ar_25 (vs : Nat → gp_V) (n : Nat) : sp_ar 25 vs n = sx (sw_err vs n) (sp_div 25 vs n) := by
  unfold sp_ar
  rw [if_neg (by decide), if_neg (by decide), if_neg (by decide), if_neg (by decide), if_neg (by decide), if_neg (by decide), if_pos (by decide)]
theorem ar_26 (vs : Nat → gp_V) (n : Nat) : sp_ar 26 vs n = sx (sw_err vs n) (sp_div 26 vs n) := by
  unfold sp_ar
  rw [if_neg (by decide), if_neg (by decide), if_neg (by decide), if_neg (by decide), if_neg (by decide), if_neg (by decide), if_pos (by decide)]
theorem ar_27 (vs : Nat → gp_V) (n : Nat) : sp_ar 27 vs n = sx (sW vs 0) (sp_fac (sw_x vs 0)) := by
  unfold sp_ar
  rw [if_neg (by decide), if_neg (by decide), if_neg (by decide), if_neg (by decide), if_neg (by decide), if_neg (by decide), if_neg (by decide), if_pos (by decide)]
theorem ar_28 (vs : Nat → gp_V) (n : Nat) : sp_ar 28 vs n = sx (bl (sW vs 0) (sW vs 1)) (sp_com (sw_x vs 0) (sw_x vs 1)) := by
  unfold sp_ar
  rw [if_neg (by decide), if_neg (by decide), if_neg (by decide), if_neg (by decide), if_neg (by decide), if_neg (by decide), if_neg (by decide), if_neg (by decide), if_pos (by decide)]
theorem ar_29 (vs : Nat → gp_V) (n : Nat) : sp_ar 29 vs n = sx (sN vs 0).1 (sp_even (sN vs 0).2) := by
  unfold sp_ar
  rw [if_neg (by decide), if_neg (by decide), if_neg (by decide), if_neg (by decide), if_neg (by decide), if_neg (by decide), if_neg (by decide), if_neg (by decide), if_neg (by decide), if_pos (by decide)]
theorem ar_30 (vs : Nat → gp_V) (n : Nat) : sp_ar 30 vs n = sx (sN vs 0).1 (sp_odd (sN vs 0).2) := by
  unfold sp_ar
  rw [if_neg (by decide), if_neg (by decide), if_neg (by decide), if_neg (by decide), if_neg (by decide), if_neg (by decide), if_neg (by decide), if_neg (by decide), if_neg (by decide), if_neg (by decide), if_pos (by decide)]
theorem ar_31 (vs : Nat → gp_V) (n : Nat) : sp_ar 31 vs n = sx (bl (sN vs 0).1 (sN vs 1).1) (sp_cei (sN vs 0).2 (sN vs 1).2) := by
  unfold sp_ar
  rw [if_neg (by decide), if_neg (by decide), if_neg (by decide), if_neg (by decide), if_neg (by decide), if_neg (by decide), if_neg (by decide), if_neg (by decide), if_neg (by decide), if_neg (by decide), if_neg (by decide), if_pos (by decide)]
theorem ar_32 (vs : Nat → gp_V) (n : Nat) : sp_ar 32 vs n = sx (bl (sN vs 0).1 (sN vs 1).1) (sp_flo (sN vs 0).2 (sN vs 1).2) := by
  unfold sp_ar
  rw [if_neg (by decide), if_neg (by decide), if_neg (by decide), if_neg (by decide), if_neg (by decide), if_neg (by decide), if_neg (by decide), if_neg (by decide), if_neg (by decide), if_neg (by decide), if_neg (by decide), if_neg (by decide), if_pos (by decide)]
theorem ar_33 (vs : Nat → gp_V) (n : Nat) : sp_ar 33 vs n = sx (if 1 < n then bl (sN vs 0).1 (sW vs 1) else (sN vs 0).1) (sp_pla (sN vs 0).2 (if 1 < n then sw_x vs 1 else 0) (if 33 = 33 then 0 else 0x3fe0000000000000)) := by
  unfold sp_ar
  rw [if_neg (by decide), if_neg (by decide), if_neg (by decide), if_neg (by decide), if_neg (by decide), if_neg (by decide), if_neg (by decide), if_neg (by decide), if_neg (by decide), if_neg (by decide), if_neg (by decide), if_neg (by decide), if_neg (by decide)]
theorem ar_34 (vs : Nat → gp_V) (n : Nat) : sp_ar 34 vs n = sx (if 1 < n then bl (sN vs 0).1 (sW vs 1) else (sN vs 0).1) (sp_pla (sN vs 0).2 (if 1 < n then sw_x vs 1 else 0) (if 34 = 33 then 0 else 0x3fe0000000000000)) := by
  unfold sp_ar
  rw [if_neg (by decide), if_neg (by decide), if_neg (by decide), if_neg (by decide), if_neg (by decide), if_neg (by decide), if_neg (by decide), if_neg (by decide), if_neg (by decide), if_neg (by decide), if_neg (by decide), if_neg (by decide), if_neg (by decide)]
theorem sim_19 (x y : UInt64) : (if 19 ≤ 28 then sp_sim 19 x y else sp_ste 19 x y) = gc_n (wr_y x) := by
  rw [if_pos (by decide)]
  unfold sp_sim
  rw [if_pos (by decide)]
theorem sim_20 (x y : UInt64) : (if 20 ≤ 28 then sp_sim 20 x y else sp_ste 20 x y) = gc_n (FP.i2d (gN (s_sg x))) := by
  rw [if_pos (by decide)]
  unfold sp_sim
  rw [if_neg (by decide), if_pos (by decide)]
theorem sim_21 (x y : UInt64) : (if 21 ≤ 28 then sp_sim 21 x y else sp_ste 21 x y) = gc_n (s_fl x) := by
  rw [if_pos (by decide)]
  unfold sp_sim
  rw [if_neg (by decide), if_neg (by decide), if_pos (by decide)]
theorem sim_22 (x y : UInt64) : (if 22 ≤ 28 then sp_sim 22 x y else sp_ste 22 x y) = sp_pow x y := by
  rw [if_pos (by decide)]
  unfold sp_sim
  rw [if_neg (by decide), if_neg (by decide), if_neg (by decide), if_pos (by decide)]
theorem sim_23 (x y : UInt64) : (if 23 ≤ 28 then sp_sim 23 x y else sp_ste 23 x y) = sp_mod x y := by
  rw [if_pos (by decide)]
  unfold sp_sim
  rw [if_neg (by decide), if_neg (by decide), if_neg (by decide), if_neg (by decide), if_pos (by decide)]
theorem sim_24 (x y : UInt64) : (if 24 ≤ 28 then sp_sim 24 x y else sp_ste 24 x y) = sp_quo x y := by
  rw [if_pos (by decide)]
  unfold sp_sim
  rw [if_neg (by decide), if_neg (by decide), if_neg (by decide), if_neg (by decide), if_neg (by decide)]
theorem sim_29 (x y : UInt64) : (if 29 ≤ 28 then sp_sim 29 x y else sp_ste 29 x y) = sp_even x := by
  rw [if_neg (by decide)]
  unfold sp_ste
  rw [if_pos (by decide)]
theorem sim_30 (x y : UInt64) : (if 30 ≤ 28 then sp_sim 30 x y else sp_ste 30 x y) = sp_odd x := by
  rw [if_neg (by decide)]
  unfold sp_ste
  rw [if_neg (by decide), if_pos (by decide)]
theorem sim_31 (x y : UInt64) : (if 31 ≤ 28 then sp_sim 31 x y else sp_ste 31 x y) = sp_cei x y := by
  rw [if_neg (by decide)]
  unfold sp_ste
  rw [if_neg (by decide), if_neg (by decide), if_pos (by decide)]
theorem sim_32 (x y : UInt64) : (if 32 ≤ 28 then sp_sim 32 x y else sp_ste 32 x y) = sp_flo x y := by
  rw [if_neg (by decide)]
  unfold sp_ste
  rw [if_neg (by decide), if_neg (by decide), if_neg (by decide)]
section MDV
variable {h : gk_H} {S S0 S1 : gv_S} {c : gp_C} {vl x y : UInt64} {e a n : Nat} {vs : Nat → gp_V}
/-- what the loop knows -/
def mDv (vs : Nat → gp_V) (i g l : Nat) (be ze ov : Bool) : Prop := be = sw_b vs i ∧ ze = sw_z vs i ∧ (be = false → g = sw_g vs i ∧ (ze = false → (sw_l vs i = none ∧ ov = true) ∨ (sw_l vs i = some l ∧ ov = false)))
theorem sw_z_at {i : Nat} : sw_z vs (i + 1) = (sw_z vs i || decide (sw_x vs i = 0)) := rfl
theorem sw_b_at {i : Nat} : sw_b vs (i + 1) = (sw_b vs i || decide (sw_x vs i < 0)) := rfl
theorem mdv_end (f : Nat) (hf : f = 25 ∨ f = 26) (gn : ∀ k, k < n → gp_okV (vs k)) (g l : Nat) (be ze ov : Bool) (hg : g < 9007199254740992) (hl : l < 9007199254740992) (hE : sw_err vs n ≤ 8) (q : mX mSt S0 S) (hb : S.1 30 11 = gI (sw_err vs n)) (inv : sw_err vs n = 0 → mDv vs n g l be ze ov) : mF h S0 (((gk_get (gv_ov h S) (some 30) 7 11).bind gk_asI).bind fun x1 => if x1 = 0 then (if gB be = 0 then (f_M_divisors_b175 (some 30) (gI f) (gJ (g : Int)) (gJ (l : Int)) (gB ze) (gB ov) (gv_ov h S)) else (gk_cv (gv_ov h S) (some 30) 7 (f_M_fail (some 30) (6 : Int32) (gv_ov h S)) fun _ h1 => f_M_divisors_b175 (some 30) (gI f) (gJ (g : Int)) (gJ (l : Int)) (gB ze) (gB ov) h1)) else (f_M_divisors_b175 (some 30) (gI f) (gJ (g : Int)) (gJ (l : Int)) (gB ze) (gB ov) (gv_ov h S))) (gV_1 (sx (sw_err vs n) (sp_div f vs n))) := by
  have il := fd_l2df (gJ (l : Int))
  have ig := fd_l2df (gJ (g : Int))
  have q25 : ∀ {β : Type} (X Y : β), (if gI f = (25 : Int32) then X else Y) = if f = 25 then X else Y := fun X Y => by rw [gI_lit 25]; exact ite_eq _ _ _ _ (by omega) (by decide)
  have q26 : ∀ {β : Type} (X Y : β), (if gI f = (26 : Int32) then X else Y) = if f = 26 then X else Y := fun X Y => by rw [gI_lit 26]; exact ite_eq _ _ _ _ (by omega) (by decide)
  have b229 : ∀ (T : gv_S) (z : UInt64) (e : Nat), fd_f z → mX mSt S0 T → T.1 30 11 = gI e → e ≤ 8 → mF h S0 (f_M_divisors_b229 (some 30) z (gv_ov h T)) (gV_1 (sx e (gc_n z))) := fun T z e hz hq hT he => by
    unfold f_M_divisors_b229
    rw [gc_30, gu_idU]
    exact mF.ansS hz hq hT he
  have b204 : ∀ (T : gv_S) (e : Nat), mX mSt S0 T → T.1 30 11 = gI e → e ≤ 8 → mF h S0 (f_M_divisors_b204 (some 30) (gI f) (gJ (g : Int)) (gJ (l : Int)) (gB ze) (gv_ov h T)) (gV_1 (sx e (gc_n (if f = 25 then FP.l2d (gJ (g : Int)) else if ze = true then 0 else FP.l2d (gJ (l : Int)))))) := fun T e hq hT he => by
    unfold f_M_divisors_b204
    rw [q25, ite_B]
    by_cases w : f = 25
    · rw [if_pos w, if_pos w]
      exact b229 T _ e ig hq hT he
    · rw [if_neg w, if_neg w]
      cases ze
      · rw [if_neg (by decide), if_neg (by decide)]
        exact b229 T _ e il hq hT he
      · rw [if_pos rfl, if_pos rfl]
        exact b229 T _ e fd_f0 hq hT he
  have b175e : ∀ (T : gv_S) (e : Nat), mX mSt S0 T → T.1 30 11 = gI e → e ≤ 8 → e ≠ 0 → mF h S0 (f_M_divisors_b175 (some 30) (gI f) (gJ (g : Int)) (gJ (l : Int)) (gB ze) (gB ov) (gv_ov h T)) (gV_1 (gc_e e)) := fun T e hq hT he h0 => by
    unfold f_M_divisors_b175
    have := b204 T e hq hT he
    rw [show sx e (gc_n (if f = 25 then FP.l2d (gJ (g : Int)) else if ze = true then 0 else FP.l2d (gJ (l : Int)))) = gc_e e from if_neg h0] at this
    rw [gg_30_11, hT, ite0 e he, if_neg h0]
    exact this
  rw [gg_30_11, hb, ite0 _ hE]
  by_cases z : sw_err vs n = 0
  · rw [if_pos z, show sx (sw_err vs n) (sp_div f vs n) = sp_div f vs n from if_pos z, ite_B]
    rw [z] at hb
    obtain ⟨i1, i2, i3⟩ := inv z
    unfold sp_div
    by_cases wb : be = true
    · rw [if_pos wb, if_pos (by rw [← i1]; exact wb), gc_30, gI_lit 6, m_fail 0 6 hb (by decide), bl_n, gk_ca_some]
      exact b175e _ 6 (q.trans (mX.I _ (mB_st ⟨rfl, rfl⟩))) (gu11 6) (by decide) (by decide)
    · obtain ⟨j1, j2⟩ := i3 (by simpa using wb)
      have m204 := b204 S 0 q hb (by decide)
      rw [show ∀ c : gp_C, sx 0 c = c from fun c => if_pos rfl] at m204
      rw [if_neg wb, if_neg (by rw [← i1]; exact wb)]
      unfold f_M_divisors_b175
      rw [gg_30_11, hb, ite0 0 (by decide), if_pos rfl, q26, ite_B, ite_B]
      by_cases w : f = 25
      · rw [if_neg (show ¬ f = 26 by omega), if_pos w, ← j1]
        rw [if_pos w] at m204
        exact m204
      · rw [if_pos (show f = 26 by omega), if_neg w]
        rw [if_neg w] at m204
        by_cases wz : ze = true
        · rw [if_pos wz, if_pos (by rw [← i2]; exact wz)]
          rw [if_pos wz] at m204
          exact m204
        · rw [if_neg wz, if_neg (show ¬ sw_z vs n = true from fun y => wz (i2.trans y))]
          rw [if_neg wz] at m204
          rcases j2 (by simpa using wz) with ⟨k1, k2⟩ | ⟨k1, k2⟩
          · rw [if_pos k2, k1, gc_30, gI_lit 6, m_fail 0 6 hb (by decide), bl_n, gk_ca_some]
            have := b204 _ 6 (q.trans (mX.I _ (mB_st ⟨rfl, rfl⟩))) (gu11 6) (by decide)
            rw [show ∀ c : gp_C, sx 6 c = gc_e 6 from fun c => if_neg (by decide)] at this
            exact this
          · rw [k2, if_neg (by decide), k1]
            exact m204
  · rw [if_neg z, show sx (sw_err vs n) (sp_div f vs n) = gc_e (sw_err vs n) from if_neg z]
    exact b175e S _ q hb hE z
theorem gJ_pos_div (x g : Nat) (hx : x < 9223372036854775808) (hg : 0 < g) (hg2 : g < 9223372036854775808) : gJ (x : Int) / gJ (g : Int) = gJ ((x / g : Nat) : Int) := by
  rw [gJ_div _ _ (by omega) (by omega) (by omega) (by omega)]
  congr 1
theorem gB_z {e : Bool} {β : Sort _} (X Y : β) : (if gB e = (0 : Int32) then X else Y) = if e = true then Y else X := ite_B e X Y
/-- the loop of 25 and 26 -/
theorem mdv_loop (f : Nat) (hf : f = 25 ∨ f = 26) (hn : n ≤ 8) : ∀ (t i fu : Nat) (T : gv_S) (g l : Nat) (be ze ov : Bool), i + t = n → t < fu → mG T a vs n → mX mSt S0 T → T.1 30 11 = gI (sw_err vs i) → sw_err vs i ≤ 8 → g < 9007199254740992 → 1 ≤ l → l < 9007199254740992 → (sw_err vs i = 0 → mDv vs i g l be ze ov) → mF h S0 (f_M_divisors_b18 fu (some 30) (gI f) (gI a) (gI n) (gJ (g : Int)) (gJ (l : Int)) (gB be) (gB ze) (gB ov) (gI (a + i)) (gv_ov h T)) (gV_1 (sx (sw_err vs n) (sp_div f vs n))) := by
  intro t
  induction t with
  | zero =>
    intro i fu T g l be ze ov hi hfu hG q hb hE hg hl1 hl inv
    obtain ⟨fu, rfl⟩ : ∃ f, fu = f + 1 := ⟨fu - 1, by omega⟩
    have ei : i = n := by omega
    subst ei
    have := hG.1
    rw [f_M_divisors_b18]
    dsimp only
    rw [gI_add, ite_le _ _ _ _ (by omega) (by omega), if_pos (Nat.le_refl _)]
    exact mdv_end f hf (fun k hk => hG.ok hk) g l be ze ov hg hl hE q hb inv
  | succ t ih =>
    intro i fu T g l be ze ov hi hfu hG q hb hE hg hl1 hl inv
    obtain ⟨fu, rfl⟩ : ∃ f, fu = f + 1 := ⟨fu - 1, by omega⟩
    have h16 := hG.1
    obtain ⟨T1, e1, e2, e3⟩ := m_whoW (h := h) hG (k := i) (by omega) hb hE
    obtain ⟨w1, w2, w3⟩ := hG.sW (k := i) (by omega)
    have q1 := q.trans (e2.le fun _ _ z => mQ_st z)
    have hG1 := hG.st (e2.le fun _ _ z => mQ_st z)
    have hE1 : sw_err vs (i + 1) ≤ 8 := bl_le hE w1
    have hb1 : T1.1 30 11 = gI (sw_err vs (i + 1)) := e3
    rw [f_M_divisors_b18]
    dsimp only
    rw [gI_add, ite_le _ _ _ _ (by omega) (by omega), if_neg (by omega), gc_30, e1, gk_ca_some]
    generalize hx : (if sw_err vs i = 0 then sw_x vs i else 0) = X
    have hXb : -9007199254740992 < X ∧ X < 9007199254740992 := by
      rw [← hx]
      split <;> omega
    have c0 : (0 : Int64) = gJ 0 := rfl
    -- where nothing is reckoned
    have b151 : ∀ (g' l' : Nat) (be' ze' ov' : Bool), g' < 9007199254740992 → 1 ≤ l' → l' < 9007199254740992 → (sw_err vs (i + 1) = 0 → mDv vs (i + 1) g' l' be' ze' ov') → mF h S0 (f_M_divisors_b151 (f_M_divisors_b18 fu) (some 30) (gI f) (gI a) (gI n) (gJ (g' : Int)) (gJ (l' : Int)) (gB be') (gB ze') (gB ov') (gI (a + i)) (gv_ov h T1)) (gV_1 (sx (sw_err vs n) (sp_div f vs n))) := fun g' l' be' ze' ov' hg' hl1' hl' inv' => by
      unfold f_M_divisors_b151
      rw [gk_let_eq, show gI (a + i) + (1 : Int32) = gI (a + (i + 1)) from gI_add (a + i) 1]
      exact ih (i + 1) fu T1 g' l' be' ze' ov' (by omega) (by omega) hG1 q1 hb1 hE1 hg' hl1' hl' inv'
    have b70 : ∀ be' ze' : Bool, (sw_err vs (i + 1) = 0 → be' = sw_b vs (i + 1) ∧ ze' = sw_z vs (i + 1)) → mF h S0 (f_M_divisors_b70 (f_M_divisors_b18 fu) (some 30) (gI f) (gI a) (gI n) (gJ (g : Int)) (gJ (l : Int)) (gB be') (gB ov) (gI (a + i)) (gJ X) (gB ze') (gv_ov h T1)) (gV_1 (sx (sw_err vs n) (sp_div f vs n))) := by
      intro be' ze' hbz
      unfold f_M_divisors_b70
      rw [gg_30_11, hb1, ite0 _ hE1]
      by_cases z : sw_err vs (i + 1) = 0
      · obtain ⟨b1, b2⟩ := hbz z
        obtain ⟨z0, z1⟩ := bl_z.mp (show bl (sw_err vs i) (sW vs i) = 0 from z)
        obtain ⟨v1, v2, v3⟩ := inv z0
        have eX : X = sw_x vs i := by rw [← hx, if_pos z0]
        rw [if_pos z, gB_z]
        by_cases wb : be' = true
        · rw [if_pos wb]
          exact b151 g l be' ze' ov hg hl1 hl fun _ => ⟨b1, b2, fun y => absurd wb (by rw [y]; decide)⟩
        · have nb : sw_b vs i = false ∧ ¬ sw_x vs i < 0 := by
            rw [b1, sw_b_at] at wb
            simpa using wb
          obtain ⟨g1, g2⟩ := v3 (by rw [v1]; exact nb.1)
          obtain ⟨m, hm⟩ : ∃ m : Nat, X = (m : Int) := ⟨X.toNat, by omega⟩
          have mx : (sw_x vs i).toNat = m := by omega
          have hgm : Nat.gcd g m = sw_g vs (i + 1) := by
            show _ = Nat.gcd (sw_g vs i) (sw_x vs i).toNat
            rw [g1, mx]
          have hg' : Nat.gcd g m < 9007199254740992 := by
            rw [hgm]
            exact sw_g_b (i + 1) fun k hk => hG.ok (by omega)
          rw [if_neg wb, hm, mo_gcd g m hg (by omega), gk_ca_some, gB_z]
          by_cases wz : ze' = true
          · rw [if_pos wz]
            exact b151 _ l be' ze' ov hg' hl1 hl fun _ => ⟨b1, b2, fun _ => ⟨hgm, fun y => absurd wz (by rw [y]; decide)⟩⟩
          · have nz : sw_z vs i = false ∧ ¬ sw_x vs i = 0 := by
              rw [b2, sw_z_at] at wz
              simpa using wz
            have g3 := g2 (by rw [v2]; exact nz.1)
            rw [if_neg wz, gB_z]
            by_cases wo : ov = true
            · rw [if_pos wo]
              refine b151 _ l be' ze' ov hg' hl1 hl fun _ => ⟨b1, b2, fun _ => ⟨hgm, fun _ => ?_⟩⟩
              rcases g3 with ⟨k1, k2⟩ | ⟨k1, k2⟩
              · refine Or.inl ⟨?_, wo⟩
                show (match sw_l vs i with | none => none | some l => _) = none
                rw [k1]
              · rw [wo] at k2
                cases k2
            · have k1 : sw_l vs i = some l := by
                rcases g3 with ⟨k1, k2⟩ | ⟨k1, k2⟩
                · exact absurd k2 wo
                · exact k1
              have hm0 : 0 < m := by omega
              have hgp : 0 < Nat.gcd l m := Nat.gcd_pos_of_pos_left _ (by omega)
              have hgl : Nat.gcd l m ≤ l := Nat.le_of_dvd (by omega) (Nat.gcd_dvd_left l m)
              have hgg : Nat.gcd l m ≤ m := Nat.le_of_dvd hm0 (Nat.gcd_dvd_right l m)
              have hq1 : 1 ≤ m / Nat.gcd l m := (Nat.le_div_iff_mul_le hgp).mpr (by omega)
              have hq2 : m / Nat.gcd l m ≤ m := Nat.div_le_self _ _
              obtain ⟨D, hD⟩ : ∃ D, D = 9007199254740991 / l := ⟨_, rfl⟩
              have hdl : D ≤ 9007199254740991 := by
                rw [hD]
                exact Nat.div_le_self _ _
              have hDJ : (9007199254740991 : Int64) / gJ (l : Int) = gJ (D : Int) := by
                rw [hD]
                exact gJ_pos_div 9007199254740991 l (by decide) (by omega) (by omega)
              rw [if_neg wo, mo_gcd l m hl (by omega), gk_ca_some, if_neg (gJ_nz hgp (by omega)), gJ_pos_div m _ (by omega) hgp (by omega), gk_let_eq, if_neg (gJ_nz (y := l) (by omega) (by omega)), hDJ, jte_le _ _ _ _ (by omega) (by omega) (by omega) (by omega)]
              have hle : (((m / Nat.gcd l m : Nat) : Int) ≤ (D : Int)) ↔ l * (m / Nat.gcd l m) ≤ 9007199254740991 := by
                rw [Nat.mul_comm, ← Nat.le_div_iff_mul_le (by omega), ← hD]
                omega
              have sl : sw_l vs (i + 1) = if l * (m / Nat.gcd l m) ≤ 9007199254740991 then some (l * (m / Nat.gcd l m)) else none := by
                show (match sw_l vs i with | none => none | some l => if l * ((sw_x vs i).toNat / Nat.gcd l (sw_x vs i).toNat) ≤ 9007199254740991 then some (l * ((sw_x vs i).toNat / Nat.gcd l (sw_x vs i).toNat)) else none) = _
                rw [k1, mx]
              unfold f_M_divisors_b132 f_M_divisors_b149
              by_cases wl : l * (m / Nat.gcd l m) ≤ 9007199254740991
              · have hpos : 1 ≤ l * (m / Nat.gcd l m) := Nat.mul_pos (by omega) (by omega)
                rw [if_pos (hle.mpr wl), if_pos rfl, gJ_mul, show (l : Int) * ((m / Nat.gcd l m : Nat) : Int) = ((l * (m / Nat.gcd l m) : Nat) : Int) by rw [Int.natCast_mul]]
                exact b151 _ _ be' ze' false hg' hpos (by omega) fun _ => ⟨b1, b2, fun _ => ⟨hgm, fun _ => Or.inr ⟨by rw [sl, if_pos wl], rfl⟩⟩⟩
              · rw [if_neg (fun y => wl (hle.mp y)), if_neg (by decide)]
                exact b151 _ l be' ze' true hg' hl1 hl fun _ => ⟨b1, b2, fun _ => ⟨hgm, fun _ => Or.inl ⟨by rw [sl, if_neg wl], rfl⟩⟩⟩
      · rw [if_neg z]
        exact b151 g l be' ze' ov hg hl1 hl fun y => absurd y z
    have b51 : ∀ be' : Bool, (sw_err vs (i + 1) = 0 → be' = sw_b vs (i + 1)) → mF h S0 (f_M_divisors_b51 (f_M_divisors_b18 fu) (some 30) (gI f) (gI a) (gI n) (gJ (g : Int)) (gJ (l : Int)) (gB ze) (gB ov) (gI (a + i)) (gJ X) (gB be') (gv_ov h T1)) (gV_1 (sx (sw_err vs n) (sp_div f vs n))) := by
      intro be' hbb
      unfold f_M_divisors_b51 f_M_divisors_b65
      have o1 : (1 : Int32) = gB true := rfl
      have o0 : (0 : Int32) = gB false := rfl
      rw [gB_z, c0, jte_eq _ _ _ _ (by omega) (by omega) (by decide) (by decide)]
      have zz : ∀ y : sw_err vs (i + 1) = 0, ze = sw_z vs i ∧ X = sw_x vs i := fun y => by
        obtain ⟨z0, z1⟩ := bl_z.mp (show bl (sw_err vs i) (sW vs i) = 0 from y)
        exact ⟨(inv z0).2.1, by rw [← hx, if_pos z0]⟩
      by_cases wz : ze = true
      · rw [if_pos wz, o1]
        exact b70 be' true fun y => ⟨hbb y, by rw [sw_z_at, ← (zz y).1, wz]; rfl⟩
      · rw [if_neg wz]
        have wz' : ze = false := by simpa using wz
        by_cases w0 : X = 0
        · rw [if_pos w0, o1]
          exact b70 be' true fun y => ⟨hbb y, by rw [sw_z_at, ← (zz y).1, ← (zz y).2, decide_eq_true w0, Bool.or_true]⟩
        · rw [if_neg w0, o0]
          exact b70 be' false fun y => ⟨hbb y, by rw [sw_z_at, ← (zz y).1, ← (zz y).2, decide_eq_false w0, wz']; rfl⟩
    have o1 : (1 : Int32) = gB true := rfl
    have o0 : (0 : Int32) = gB false := rfl
    have bb : ∀ y : sw_err vs (i + 1) = 0, be = sw_b vs i ∧ X = sw_x vs i := fun y => by
      obtain ⟨z0, z1⟩ := bl_z.mp (show bl (sw_err vs i) (sW vs i) = 0 from y)
      exact ⟨(inv z0).1, by rw [← hx, if_pos z0]⟩
    unfold f_M_divisors_b46
    rw [gB_z, c0, jte_ge _ _ _ _ (by omega) (by omega) (by decide) (by decide)]
    by_cases wb : be = true
    · rw [if_pos wb, o1]
      exact b51 true fun y => by rw [sw_b_at, ← (bb y).1, wb]; rfl
    · have wb' : be = false := by simpa using wb
      rw [if_neg wb]
      by_cases w0 : 0 ≤ X
      · rw [if_pos w0, o0]
        exact b51 false fun y => by rw [sw_b_at, ← (bb y).1, ← (bb y).2, decide_eq_false (by omega), wb']; rfl
      · rw [if_neg w0, o1]
        exact b51 true fun y => by rw [sw_b_at, ← (bb y).1, ← (bb y).2, decide_eq_true (by omega), Bool.or_true]
theorem mo_divisors (g : mG S a vs n) (hb : S.1 30 11 = gI 0) (f : Nat) (hf : f = 25 ∨ f = 26) (hn : n ≤ 8) : mF h S (f_M_divisors (some 30) (gI f) (gI a) (gI n) (gv_ov h S)) (gV_1 (sx (sw_err vs n) (sp_div f vs n))) :=
  mdv_loop (h := h) (S0 := S) f hf hn n 0 gk_F S 0 1 false false false (Nat.zero_add _) (by unfold gk_F; omega) g (mX.refl _ _) hb (Nat.zero_le _) (by decide) (by decide) (by decide) fun _ => ⟨rfl, rfl, fun _ => ⟨rfl, fun _ => Or.inr ⟨rfl, rfl⟩⟩⟩
/-- functions 19 to 34 -/
theorem mo_numbers (g : mG S a vs n) (hb : S.1 30 11 = gI 0) (f : Nat) (h1 : 19 ≤ f) (h2 : f ≤ 34) (hn1 : 1 ≤ n) (hn8 : n ≤ 8) (hn2 : f = 22 ∨ f = 23 ∨ f = 24 ∨ f = 28 ∨ f = 31 ∨ f = 32 → n = 2) (hn3 : f = 19 ∨ f = 20 ∨ f = 21 ∨ f = 29 ∨ f = 30 → n = 1) (hn4 : f = 33 ∨ f = 34 → n ≤ 2) : mF h S (f_M_numbers (some 30) (gI f) (gI a) (gI n) (gv_ov h S)) (gV_1 (sp_ar f vs n)) := by
  have h16 := g.1
  obtain ⟨a1, a2, a3⟩ := g.sN (k := 0) (by omega)
  have q25 : ∀ (m : Nat), m < 1000 → ∀ {β : Type} (X Y : β), (if gI f = gI m then X else Y) = if f = m then X else Y := fun m hm _ X Y => ite_eq _ _ _ _ (by omega) (by omega)
  unfold f_M_numbers f_M_numbers_b12 f_M_numbers_b32
  rw [gI_lit 25, q25 25 (by decide), gI_lit 26, q25 26 (by decide), gI_lit 27, q25 27 (by decide), gI_lit 28, q25 28 (by decide)]
  by_cases z1 : f = 25 ∨ f = 26
  · have e : sp_ar f vs n = sx (sw_err vs n) (sp_div f vs n) := by
      rcases z1 with rfl | rfl
      · exact ar_25 vs n
      · exact ar_26 vs n
    have := mo_divisors (h := h) g hb f z1 hn8
    rw [e, gc_30, gu_idU]
    rcases z1 with z | z
    · rw [if_pos z]
      exact this
    · rw [if_neg (by omega), if_pos z]
      exact this
  · rw [if_neg (show ¬ f = 25 by omega), if_neg (show ¬ f = 26 by omega)]
    by_cases z2 : f = 27 ∨ f = 28
    · have := mo_choosing (h := h) g hb f z2 (fun y => by have := hn2 (by omega); omega) hn1
      rw [gc_30, gu_idU]
      have e : sp_ar f vs n = if f = 27 then sx (sW vs 0) (sp_fac (sw_x vs 0)) else sx (bl (sW vs 0) (sW vs 1)) (sp_com (sw_x vs 0) (sw_x vs 1)) := by
        rcases z2 with rfl | rfl
        · rw [if_pos rfl]
          exact ar_27 vs n
        · rw [if_neg (by decide)]
          exact ar_28 vs n
      rw [e]
      rcases z2 with z | z
      · rw [if_pos z]
        exact this
      · rw [if_neg (by omega), if_pos z]
        exact this
    · rw [if_neg (show ¬ f = 27 by omega), if_neg (show ¬ f = 28 by omega)]
      obtain ⟨T1, e1, e2, e3⟩ := m_numN (h := h) g (k := 0) (by omega) hb (by decide)
      rw [bl_n] at e3
      rw [if_pos rfl, Nat.add_zero] at e1
      have q1 : mX mSt S T1 := e2.le fun _ _ z => mQ_st z
      rw [gc_30, e1, gk_ca_some, gI_lit 32, ite_le _ _ _ _ (by omega) (by decide), gI_lit 2, ite_eq _ _ _ _ (by omega) (by decide), ite_eq _ _ _ _ (by omega) (by decide)]
      by_cases z3 : f ≤ 32
      · rw [if_pos z3]
        have b149 : ∀ (T : gv_S) (y : UInt64) (e : Nat), mX mSt S T → fd_f y → T.1 30 11 = gI e → e ≤ 8 → mF h S (f_M_numbers_b149 (some 30) (gI f) (sN vs 0).2 y (gv_ov h T)) (gV_1 (sx e (if f ≤ 28 then sp_sim f (sN vs 0).2 y else sp_ste f (sN vs 0).2 y))) := fun T y e q hy hT he => by
          unfold f_M_numbers_b149 f_M_numbers_b186 f_M_numbers_b189
          rw [gg_30_11, hT, ite0 e he, gI_lit 28, ite_le _ _ _ _ (by omega) (by decide)]
          by_cases z : e = 0
          · rw [z] at hT
            rw [if_pos z, show ∀ c : gp_C, sx e c = c from fun c => if_pos z]
            simp only [gc_30]
            by_cases z4 : f ≤ 28
            · rw [if_pos z4, if_pos z4]
              exact (mo_simple (h := h) a1 hy f h1 (by omega) hT).ans q (isR.sim _ _ _)
            · rw [if_neg z4, if_neg z4]
              exact (mo_steps (h := h) a1 hy f (by omega) z3 hT).ans q (isR.ste _ _ _)
          · rw [if_neg z, show ∀ c : gp_C, sx e c = gc_e e from fun c => if_neg z]
            exact mF.err q hT z he
        by_cases z5 : n = 2
        · obtain ⟨c1, c2, c3⟩ := g.sN (k := 1) (by omega)
          obtain ⟨T2, p1, p2, p3⟩ := m_numN (h := h) (g.st q1) (k := 1) (by omega) e3 a3
          have q2 : mX mSt S T2 := q1.trans (p2.le fun _ _ z => mQ_st z)
          have hyf : fd_f (if (sN vs 0).1 = 0 then (sN vs 1).2 else 0) := by
            split
            · exact c1
            · exact fd_f0
          have := b149 T2 _ _ q2 hyf p3 (bl_le a3 c3)
          rw [if_pos z5, show gI a + (1 : Int32) = gI (a + 1) from gI_add a 1, gc_30, p1, gk_ca_some]
          have e : sx (bl (sN vs 0).1 (sN vs 1).1) (if f ≤ 28 then sp_sim f (sN vs 0).2 (if (sN vs 0).1 = 0 then (sN vs 1).2 else 0) else sp_ste f (sN vs 0).2 (if (sN vs 0).1 = 0 then (sN vs 1).2 else 0)) = sp_ar f vs n := by
            by_cases w : (sN vs 0).1 = 0
            · rw [if_pos w]
              have hfs : f = 22 ∨ f = 23 ∨ f = 24 ∨ f = 31 ∨ f = 32 := by omega
              rcases hfs with rfl | rfl | rfl | rfl | rfl
              · rw [sim_22, ar_22]
              · rw [sim_23, ar_23]
              · rw [sim_24, ar_24]
              · rw [sim_31, ar_31]
              · rw [sim_32, ar_32]
            · have hfs : f = 22 ∨ f = 23 ∨ f = 24 ∨ f = 31 ∨ f = 32 := by omega
              have eb : bl (sN vs 0).1 (sN vs 1).1 = (sN vs 0).1 := bl_p w
              have es : ∀ c : gp_C, sx (bl (sN vs 0).1 (sN vs 1).1) c = gc_e (sN vs 0).1 := fun c => by rw [eb]; exact if_neg w
              rw [es]
              rcases hfs with rfl | rfl | rfl | rfl | rfl
              · rw [ar_22, es]
              · rw [ar_23, es]
              · rw [ar_24, es]
              · rw [ar_31, es]
              · rw [ar_32, es]
          rw [e] at this
          exact this
        · have := b149 T1 0 _ q1 fd_f0 e3 a3
          rw [if_neg z5]
          have e : sx (sN vs 0).1 (if f ≤ 28 then sp_sim f (sN vs 0).2 0 else sp_ste f (sN vs 0).2 0) = sp_ar f vs n := by
            have hfs : f = 19 ∨ f = 20 ∨ f = 21 ∨ f = 29 ∨ f = 30 := by omega
            rcases hfs with rfl | rfl | rfl | rfl | rfl
            · rw [sim_19, ar_19]
            · rw [sim_20, ar_20]
            · rw [sim_21, ar_21]
            · rw [sim_29, ar_29]
            · rw [sim_30, ar_30]
          rw [e] at this
          exact this
      · rw [if_neg z3]
        have hf34 : f = 33 ∨ f = 34 := by omega
        have hn4' := hn4 hf34
        have b68 : ∀ (T : gv_S) (p : Int) (e : Nat), mX mSt S T → -9007199254740992 < p → p < 9007199254740992 → T.1 30 11 = gI e → e ≤ 8 → mF h S (f_M_numbers_b68 (some 30) (gI f) (sN vs 0).2 (gJ p) (gv_ov h T)) (gV_1 (sx e (sp_pla (sN vs 0).2 p (if f = 33 then 0 else 0x3fe0000000000000)))) := by
          intro T p e q p1 p2 hT he
          have b101 : ∀ (T : gv_S) (e : Nat), mX mSt S T → T.1 30 11 = gI e → e ≠ 0 → e ≤ 8 → mF h S (f_M_numbers_b101 (some 30) (gI f) (sN vs 0).2 (gJ p) (gv_ov h T)) (gV_1 (gc_e e)) := fun T e q hT h0 he => by
            unfold f_M_numbers_b101 f_M_numbers_b132
            rw [gg_30_11, hT, ite0 e he, if_neg h0]
            exact mF.err q hT h0 he
          unfold f_M_numbers_b68 f_M_numbers_b95
          rw [gg_30_11, hT, ite0 e he, show (-9 : Int64) = gJ (-9) from rfl, show (9 : Int64) = gJ 9 from rfl, jte_lt _ _ _ _ (by omega) (by omega) (by decide) (by decide), jte_le _ _ _ _ (by omega) (by omega) (by decide) (by decide)]
          by_cases z : e = 0
          · rw [z] at hT
            have f6 : mF h S (gk_cv (gv_ov h T) (some 30) 7 (f_M_fail (some 30) (6 : Int32) (gv_ov h T)) fun _ h1 => f_M_numbers_b101 (some 30) (gI f) (sN vs 0).2 (gJ p) h1) (gV_1 (gc_e 6)) := by
              rw [gc_30, gI_lit 6, m_fail 0 6 hT (by decide), bl_n, gk_ca_some]
              exact b101 _ 6 (q.trans (mX.I _ (mB_st ⟨rfl, rfl⟩))) (gu11 6) (by decide) (by decide)
            rw [if_pos z, show ∀ c : gp_C, sx e c = c from fun c => if_pos z]
            by_cases z1 : p < -9
            · have e6 : sp_pla (sN vs 0).2 p (if f = 33 then 0 else 0x3fe0000000000000) = gc_e 6 := if_pos (Or.inl z1)
              rw [if_pos z1, e6]
              exact f6
            · by_cases z2 : p ≤ 9
              · have r := mo_rounded (h := h) a1 a2 p (by omega) z2 (decide (f = 34)) hT
                have ea : (if decide (f = 34) = true then (0x3fe0000000000000 : UInt64) else 0) = if f = 33 then 0 else 0x3fe0000000000000 := by
                  rcases hf34 with rfl | rfl <;> rfl
                rw [ea] at r
                rw [if_neg z1, if_pos z2]
                unfold f_M_numbers_b101 f_M_numbers_b126 f_M_numbers_b132
                rw [gg_30_11, hT, ite0 0 (by decide), if_pos rfl, gJ_toIN p (by omega) (by omega), gI_lit 34, q25 34 (by decide)]
                have := r.ans (S0 := S) q (isR.pla _ _ _)
                simp only [gc_30]
                rcases hf34 with rfl | rfl
                · exact this
                · exact this
              · have e6 : sp_pla (sN vs 0).2 p (if f = 33 then 0 else 0x3fe0000000000000) = gc_e 6 := if_pos (Or.inr (by omega))
                rw [if_neg z1, if_neg z2, e6]
                exact f6
          · rw [if_neg z, show ∀ c : gp_C, sx e c = gc_e e from fun c => if_neg z]
            exact b101 T e q hT z he
        by_cases z5 : n = 2
        · obtain ⟨c1, c2, c3⟩ := g.sW (k := 1) (by omega)
          obtain ⟨T2, p1, p2, p3⟩ := m_whoW (h := h) (g.st q1) (k := 1) (by omega) e3 a3
          have q2 : mX mSt S T2 := q1.trans (p2.le fun _ _ z => mQ_st z)
          have := b68 T2 (if (sN vs 0).1 = 0 then sw_x vs 1 else 0) _ q2 (by split <;> omega) (by split <;> omega) p3 (bl_le a3 c1)
          rw [if_pos z5, show gI a + (1 : Int32) = gI (a + 1) from gI_add a 1, gc_30, p1, gk_ca_some]
          have e : sx (bl (sN vs 0).1 (sW vs 1)) (sp_pla (sN vs 0).2 (if (sN vs 0).1 = 0 then sw_x vs 1 else 0) (if f = 33 then 0 else 0x3fe0000000000000)) = sp_ar f vs n := by
            have e2 : sp_ar f vs n = sx (if 1 < n then bl (sN vs 0).1 (sW vs 1) else (sN vs 0).1) (sp_pla (sN vs 0).2 (if 1 < n then sw_x vs 1 else 0) (if f = 33 then 0 else 0x3fe0000000000000)) := by
              rcases hf34 with rfl | rfl
              · exact ar_33 vs n
              · exact ar_34 vs n
            rw [e2, if_pos (show 1 < n by omega), if_pos (show 1 < n by omega)]
            by_cases w : (sN vs 0).1 = 0
            · rw [if_pos w]
            · have eb : bl (sN vs 0).1 (sW vs 1) = (sN vs 0).1 := bl_p w
              rw [eb]
              unfold sx
              rw [if_neg w, if_neg w]
          rw [e] at this
          exact this
        · have := b68 T1 0 _ q1 (by decide) (by decide) e3 a3
          have e : sx (sN vs 0).1 (sp_pla (sN vs 0).2 0 (if f = 33 then 0 else 0x3fe0000000000000)) = sp_ar f vs n := by
            have e2 : sp_ar f vs n = sx (if 1 < n then bl (sN vs 0).1 (sW vs 1) else (sN vs 0).1) (sp_pla (sN vs 0).2 (if 1 < n then sw_x vs 1 else 0) (if f = 33 then 0 else 0x3fe0000000000000)) := by
              rcases hf34 with rfl | rfl
              · exact ar_33 vs n
              · exact ar_34 vs n
            rw [e2, if_neg (show ¬ 1 < n by omega), if_neg (show ¬ 1 < n by omega)]
          rw [if_neg z5]
          rw [e] at this
          exact this
end MDV
