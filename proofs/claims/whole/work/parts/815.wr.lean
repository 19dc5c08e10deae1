/-! THE PURE PART: how a number is written; the class's way -/
/-- decimal digits, the last first -/
def wb : Nat → Nat → List Nat
  | 0, _ => []
  | k + 1, n => (48 + n % 10) :: (if n < 10 then [] else wb k (n / 10))
def wd (n : Nat) : List Nat := (wb 19 n).reverse
/-- so many digits, the last first -/
def wq : Nat → Nat → List Nat
  | 0, _ => []
  | k + 1, n => (48 + n % 10) :: wq k (n / 10)
theorem wb_len : ∀ k n, (wb k n).length ≤ k
  | 0, _ => Nat.le_refl _
  | k + 1, n => by
    unfold wb
    rw [List.length_cons]
    split
    · rw [List.length_nil]; omega
    · have := wb_len k (n / 10); omega
theorem wq_len : ∀ k n, (wq k n).length = k
  | 0, _ => rfl
  | k + 1, n => by
    unfold wq
    rw [List.length_cons, wq_len k]
theorem wb_dig : ∀ k n, ∀ c ∈ wb k n, 48 ≤ c ∧ c ≤ 57
  | 0, _, c, h => absurd h List.not_mem_nil
  | k + 1, n, c, h => by
    unfold wb at h
    rcases List.mem_cons.mp h with h | h
    · omega
    · split at h
      · exact absurd h List.not_mem_nil
      · exact wb_dig k _ c h
theorem wq_dig : ∀ k n, ∀ c ∈ wq k n, 48 ≤ c ∧ c ≤ 57
  | 0, _, c, h => absurd h List.not_mem_nil
  | k + 1, n, c, h => by
    unfold wq at h
    rcases List.mem_cons.mp h with h | h
    · omega
    · exact wq_dig k _ c h
def w0 (c : Nat) : Bool := c == 48
/-- the size of x; whole numbers cut off -/
def wr_y (x : UInt64) : UInt64 := if fd_k x < 0 then FP.dneg x else x
def wr_n (y : UInt64) : Nat := (FP.d2l y).toInt.toNat
def wr_f (y : UInt64) : UInt64 := FP.dadd (FP.dmul y 0x41cdcd6500000000) 0x3fe0000000000000
def wr_h (y : UInt64) : UInt64 := FP.dadd y 0x3fe0000000000000
def wr_s (x : UInt64) : List Nat := if fd_k x < 0 then [45] else []
def wr_b (y : UInt64) : List Nat := if fd_k (FP.l2d (FP.d2l y)) = fd_k y then wd (wr_n y) else if fd_k y < 4696837146684686336 then wd (wr_n (wr_f y) / 1000000000) ++ (if wr_n (wr_f y) % 1000000000 = 0 then [] else 46 :: ((wq 9 (wr_n (wr_f y) % 1000000000)).dropWhile w0).reverse) else wd (wr_n (wr_h y))
def wr (x : UInt64) : List Nat := wr_s x ++ wr_b (wr_y x)
/-- what can be written -/
def wr_ok (x : UInt64) : Prop := -4831355200913801216 < fd_k x ∧ fd_k x < 4831355200913801216
theorem wr_yn {x : UInt64} (h : fd_n x) : fd_n (wr_y x) ∧ fd_k (wr_y x) = (if fd_k x < 0 then -fd_k x else fd_k x) := by
  obtain ⟨b1, b2, b3, b4⟩ := fd_dneg h
  unfold wr_y
  split
  · exact ⟨b1, b2⟩
  · exact ⟨h, rfl⟩
theorem fd_15_n : fd_n 0x430c6bf526340000 := (FP.Core.ne_nan _).mpr (by decide)
theorem fd_m15_n : fd_n 0xc30c6bf526340000 := (FP.Core.ne_nan _).mpr (by decide)
theorem fd_15_k : fd_k 0x430c6bf526340000 = 4831355200913801216 := by decide
theorem fd_m15_k : fd_k 0xc30c6bf526340000 = -4831355200913801216 := by decide
theorem fd_15_v : fd_v 0x430c6bf526340000 = 1000000000000000 * fd_P := by decide +kernel
theorem fd_6_n : fd_n 0x412e848000000000 := (FP.Core.ne_nan _).mpr (by decide)
theorem fd_6_k : fd_k 0x412e848000000000 = 4696837146684686336 := by decide
theorem fd_9_p : fd_f 0x41cdcd6500000000 ∧ fd_p 0x41cdcd6500000000 := fd_pf (by decide)
theorem fd_h_p : fd_f 0x3fe0000000000000 ∧ fd_p 0x3fe0000000000000 := fd_pf (by decide)
/-- a number not below 0, below 2^53, cut off -/
theorem fd_wn {y : UInt64} (hn : fd_n y) (h0 : 0 ≤ fd_k y) (h1 : fd_k y < 4845873199050653696) : FP.d2l y = gJ (wr_n y : Int) ∧ (wr_n y : Int) = fd_T y ∧ wr_n y < 9007199254740992 := by
  have ht := fd_in_T hn ⟨by omega, h1⟩
  obtain ⟨e1, e2⟩ := fd_d2l hn (by omega) (by omega)
  have hp := (fd_T_pos ((fd_kv_0 hn).2.2.2.mp h0)).1
  unfold wr_n
  rw [e2]
  refine ⟨?_, by omega, by omega⟩
  rw [e1]
  congr 1
  omega
theorem fd_wn15 {y : UInt64} (hn : fd_n y) (h0 : 0 ≤ fd_k y) (h1 : fd_k y < 4831355200913801216) : wr_n y < 1000000000000000 := by
  obtain ⟨a1, a2, a3⟩ := fd_wn hn h0 (by omega)
  have h2 := (fd_kv_lt hn fd_15_n).mp (by rw [fd_15_k]; exact h1)
  rw [fd_15_v] at h2
  have := fd_T_lt (by decide) h2
  omega
theorem fd_lt_bits {y : UInt64} (hp : fd_p y) {K : Nat} (h : fd_k y < (K : Int)) : y.toNat % 2 ^ 63 < K := by
  obtain ⟨a1, a2⟩ := fd_k_p hp
  omega
/-- the number of billionths -/
theorem wr_f_ok {y : UInt64} (hp : fd_p y) (h : fd_k y < 4696837146684686336) : fd_f (FP.dmul y 0x41cdcd6500000000) ∧ fd_n (FP.dmul y 0x41cdcd6500000000) ∧ fd_p (wr_f y) ∧ fd_k (wr_f y) < 4845873199050653696 := by
  obtain ⟨k1, k2⟩ := fd_k_p hp
  have hf : fd_f y := fd_f_lt hp.1 (by have := hp.k; omega) (by omega)
  have m1 := FP.Core.dmul_mag (a := y) (b := 0x41cdcd6500000000) (Ka := 1043) (Kb := 1053) (by omega) (by decide) (by decide) (by decide)
  have m1' : (FP.dmul y 0x41cdcd6500000000).toNat % 2 ^ 63 < 1074 * 2 ^ 52 := m1
  have hf2 : fd_f (FP.dmul y 0x41cdcd6500000000) := (FP.Core.fin_bits _).mpr (by omega)
  have hp2 := fd_mulp hp hf fd_9_p.2 fd_9_p.1
  have m2 := FP.Core.dadd_mag (a := FP.dmul y 0x41cdcd6500000000) (b := 0x3fe0000000000000) (K := 1074) m1' (by decide) (by decide)
  have m2' : (wr_f y).toNat % 2 ^ 63 < 1076 * 2 ^ 52 := m2
  have hp3 : fd_p (wr_f y) := fd_addp hp2 hf2 fd_h_p.2 fd_h_p.1
  refine ⟨hf2, hf2.n, hp3, ?_⟩
  obtain ⟨j1, j2⟩ := fd_k_p hp3
  omega
theorem wr_h_ok {y : UInt64} (hp : fd_p y) (h : fd_k y < 4831355200913801216) : fd_p (wr_h y) ∧ fd_k (wr_h y) < 4845873199050653696 := by
  obtain ⟨k1, k2⟩ := fd_k_p hp
  have hf : fd_f y := fd_f_lt hp.1 (by have := hp.k; omega) (by omega)
  have m2 := FP.Core.dadd_mag (a := y) (b := 0x3fe0000000000000) (K := 1073) (by omega) (by decide) (by decide)
  have m2' : (wr_h y).toNat % 2 ^ 63 < 1075 * 2 ^ 52 := m2
  have hp3 : fd_p (wr_h y) := fd_addp hp hf fd_h_p.2 fd_h_p.1
  refine ⟨hp3, ?_⟩
  obtain ⟨j1, j2⟩ := fd_k_p hp3
  omega
theorem gJ_div (a b : Int) (h0 : 0 ≤ a) (h1 : a < 9223372036854775808) (h2 : 0 < b) (h3 : b < 9223372036854775808) : gJ a / gJ b = gJ (a / b) := by
  have e : (gJ a / gJ b).toInt = a / b := by
    rw [Int64.toInt_div, gJ_toInt a (by omega) h1, gJ_toInt b (by omega) h3, Int.tdiv_eq_ediv_of_nonneg h0]
    have k1 : 0 ≤ a / b := Int.ediv_nonneg h0 (by omega)
    have k2 : a / b ≤ a := Int.ediv_le_self _ h0
    exact Int.bmod_eq_of_le (by omega) (by omega)
  rw [← e, gJ_self]
theorem gJ_toIN (a : Int) (h1 : -2147483648 ≤ a) (h2 : a < 2147483648) : Int64.toInt32 (gJ a) = gN a := by
  apply Int32.toInt.inj
  rw [gN_toInt a h1 h2, Int64.toInt_toInt32, gJ_toInt a (by omega) (by omega)]
  exact Int.bmod_eq_of_le (by omega) (by omega)
theorem gI_ch {c : Nat} (hc : c < 128) : UInt32.toInt32 (Int32.toUInt32 (gI c) % 65536) = gI c := by
  have : ∀ c : Fin 128, UInt32.toInt32 (Int32.toUInt32 (gI c.val) % 65536) = gI c.val := by decide +kernel
  exact this ⟨c, hc⟩
theorem wr_digit (n : Nat) (h : n < 9223372036854775808) : UInt32.toInt32 (Int32.toUInt32 (Int64.toInt32 ((48 : Int64) + (gJ (n : Int) - gJ (n : Int) / (10 : Int64) * (10 : Int64)))) % 65536) = gI (48 + n % 10) ∧ gJ (n : Int) / (10 : Int64) = gJ ((n / 10 : Nat) : Int) := by
  have e1 : gJ (n : Int) / (10 : Int64) = gJ ((n / 10 : Nat) : Int) := by
    rw [show (10 : Int64) = gJ 10 from rfl, gJ_div _ _ (by omega) (by omega) (by decide) (by decide)]
    rfl
  refine ⟨?_, e1⟩
  rw [e1, show (10 : Int64) = gJ 10 from rfl, show (48 : Int64) = gJ 48 from rfl, gJ_mul, gJ_sub, gJ_add]
  have e2 : (48 : Int) + ((n : Int) - ((n / 10 : Nat) : Int) * 10) = ((48 + n % 10 : Nat) : Int) := by omega
  rw [e2, gJ_toI _ (by omega), gI_ch (by omega)]
theorem m_wholePart {x : UInt64} (hx : fd_n x) (h : gk_H) : f_Am_wholePart x h = some (if -4845873199050653696 < fd_k x ∧ fd_k x < 4845873199050653696 then FP.l2d (FP.d2l x) else x, h) := by
  unfold f_Am_wholePart f_Am_wholePart_b14
  rw [m_within hx, gk_ca_some]
  by_cases e : -4845873199050653696 < fd_k x ∧ fd_k x < 4845873199050653696
  · rw [if_pos e, if_neg (by decide), if_pos e]
  · rw [if_neg e, if_pos rfl, if_neg e]
section WRC
variable {h0 h : gk_H} {S : gv_S} {s c0 s0 : Nat} {l : List Nat}
theorem w_whole : ∀ (j k n fu : Nat) (h : gk_H) (l : List Nat), k + j = 19 → j < fu → gp_lb h0 h s 60 c0 s0 l → l.length + j ≤ 50 → n < 10 ^ 19 → n < 9223372036854775808 → ∀ b : Int, -1 ≤ b → b < k → (0 < n ∨ k = 0) → ∃ h', f_Le_appendBackwards_b6 fu (some s) (gN b) (gJ (n : Int)) (gI k) (gv_ov h S) = some ((), gv_ov h' S) ∧ gp_lb h0 h' s 60 c0 s0 (l ++ wb j n) := by
  intro j
  induction j with
  | zero =>
    intro k n fu h l hk hf q hl hn hn2 b hb1 hb2 hz
    obtain ⟨fu, rfl⟩ : ∃ f, fu = f + 1 := ⟨fu - 1, by omega⟩
    rw [f_Le_appendBackwards_b6]
    dsimp only
    rw [gI_lit 19, ite_le _ _ _ _ (by decide) (by omega), if_pos (by omega)]
    refine ⟨h, rfl, ?_⟩
    show gp_lb h0 h s 60 c0 s0 (l ++ [])
    rw [List.append_nil]
    exact q
  | succ j ih =>
    intro k n fu h l hk hf q hl hn hn2 b hb1 hb2 hz
    obtain ⟨fu, rfl⟩ : ∃ f, fu = f + 1 := ⟨fu - 1, by omega⟩
    obtain ⟨d1, d2⟩ := wr_digit n hn2
    obtain ⟨h1, a1, a2⟩ := lb_appC (S := S) q (48 + n % 10) (by omega) (by omega) (by decide)
    have step : f_Le_appendBackwards_b31 (f_Le_appendBackwards_b6 fu) (some s) (gN b) (gJ (n : Int)) (gI k) (gv_ov h S) = f_Le_appendBackwards_b6 fu (some s) (gN b) (gJ ((n / 10 : Nat) : Int)) (gI (k + 1)) (gv_ov h1 S) := by
      unfold f_Le_appendBackwards_b31 f_Le_appendBackwards_b44
      rw [gI_N k, nte_eq _ _ _ _ (by omega) (by omega) (by omega) (by omega), if_neg (by omega), lb_cv q, d1, a1, gk_ca_some, d2, gk_let_eq, gk_let_eq, ← gI_N, gI_1, gI_add]
    have enter : f_Le_appendBackwards_b6 (fu + 1) (some s) (gN b) (gJ (n : Int)) (gI k) (gv_ov h S) = f_Le_appendBackwards_b31 (f_Le_appendBackwards_b6 fu) (some s) (gN b) (gJ (n : Int)) (gI k) (gv_ov h S) := by
      rw [f_Le_appendBackwards_b6]
      dsimp only
      rw [gI_lit 19, ite_le _ _ _ _ (by decide) (by omega), if_neg (by omega), show (0 : Int64) = gJ 0 from rfl, jte_gt _ _ _ _ (by omega) (by omega) (by decide) (by decide), gI_0, ite_eq _ _ _ _ (by omega) (by decide), gI_N k, nte_le _ _ _ _ (by omega) (by omega) (by omega) (by omega), ← gI_N]
      by_cases z : (0 : Int) < (n : Int)
      · rw [if_pos z]
      · rw [if_neg z, if_neg (by omega), if_pos (by omega)]
    rw [enter, step]
    by_cases e : n < 10
    · have hs : wb (j + 1) n = [48 + n % 10] := by
        unfold wb
        rw [if_pos e]
      rw [hs]
      obtain ⟨fu, rfl⟩ : ∃ f, fu = f + 1 := ⟨fu - 1, by omega⟩
      rw [f_Le_appendBackwards_b6]
      dsimp only
      rw [gI_lit 19, ite_le _ _ _ _ (by decide) (by omega)]
      refine ⟨h1, ?_, a2⟩
      by_cases z : 19 ≤ k + 1
      · rw [if_pos z]
        rfl
      · rw [if_neg z, show (0 : Int64) = gJ 0 from rfl, jte_gt _ _ _ _ (by omega) (by omega) (by decide) (by decide), if_neg (by omega), gI_0, ite_eq _ _ _ _ (by omega) (by decide), gI_N (k + 1), nte_le _ _ _ _ (by omega) (by omega) (by omega) (by omega), if_neg (by omega), if_neg (by omega)]
        rfl
    · have hs : wb (j + 1) n = [48 + n % 10] ++ wb j (n / 10) := by
        show (48 + n % 10) :: (if n < 10 then [] else wb j (n / 10)) = _
        rw [if_neg e]
        rfl
      rw [hs, ← List.append_assoc]
      exact ih (k + 1) (n / 10) fu h1 (l ++ [48 + n % 10]) (by omega) (by omega) a2 (by rw [List.length_append, List.length_singleton]; omega) (by omega) (by omega) b hb1 (by omega) (Or.inl (by omega))
/-- with a dot before the last nine -/
theorem w_dotted : ∀ (j k n fu : Nat) (h : gk_H) (l : List Nat), k + j = 9 → j + 12 < fu → gp_lb h0 h s 60 c0 s0 l → l.length = k → n < 10 ^ (j + 9) → ∃ h', f_Le_appendBackwards_b6 fu (some s) (gN 9) (gJ (n : Int)) (gI k) (gv_ov h S) = some ((), gv_ov h' S) ∧ gp_lb h0 h' s 60 c0 s0 (l ++ (wq j n ++ (46 :: wb 10 (n / 10 ^ j)))) := by
  intro j
  induction j with
  | zero =>
    intro k n fu h l hk hf q hl hn
    obtain ⟨fu, rfl⟩ : ∃ f, fu = f + 1 := ⟨fu - 1, by omega⟩
    have hk9 : k = 9 := by omega
    subst hk9
    have hn' : n < 1000000000 := hn
    obtain ⟨d1, d2⟩ := wr_digit n (by omega)
    obtain ⟨h1, a1, a2⟩ := lb_appC (S := S) q 46 (by omega) (by omega) (by decide)
    obtain ⟨h2, b1, b2⟩ := lb_appC (S := S) a2 (48 + n % 10) (by omega) (by rw [List.length_append, List.length_singleton]; omega) (by decide)
    have step : f_Le_appendBackwards_b31 (f_Le_appendBackwards_b6 fu) (some s) (gN 9) (gJ (n : Int)) (gI 9) (gv_ov h S) = f_Le_appendBackwards_b6 fu (some s) (gN 9) (gJ ((n / 10 : Nat) : Int)) (gI 10) (gv_ov h2 S) := by
      unfold f_Le_appendBackwards_b31 f_Le_appendBackwards_b44
      rw [if_pos (show gI 9 = gN 9 from rfl), lb_cv q, gI_lit 46, a1, gk_ca_some, lb_cv a2, d1, b1, gk_ca_some, d2, gk_let_eq, gk_let_eq]
      rfl
    rw [f_Le_appendBackwards_b6]
    dsimp only
    rw [gI_lit 19, ite_le _ _ _ _ (by decide) (by omega), if_neg (by omega), gI_N 9, nte_le _ _ _ _ (by decide) (by decide) (by decide) (by decide)]
    have e9 : (if 0 < lg_cmp (gJ (n : Int)) 0 then f_Le_appendBackwards_b31 (f_Le_appendBackwards_b6 fu) (some s) (gN 9) (gJ (n : Int)) (gN ((9 : Nat) : Int)) (gv_ov h S) else if ((9 : Nat) : Int) ≤ 9 then f_Le_appendBackwards_b31 (f_Le_appendBackwards_b6 fu) (some s) (gN 9) (gJ (n : Int)) (gN ((9 : Nat) : Int)) (gv_ov h S) else if gN ((9 : Nat) : Int) = 0 then f_Le_appendBackwards_b31 (f_Le_appendBackwards_b6 fu) (some s) (gN 9) (gJ (n : Int)) (gN ((9 : Nat) : Int)) (gv_ov h S) else f_Le_appendBackwards_b75 (gv_ov h S)) = f_Le_appendBackwards_b6 fu (some s) (gN 9) (gJ ((n / 10 : Nat) : Int)) (gI 10) (gv_ov h2 S) := by
      rw [← step]
      split
      · rfl
      · rw [if_pos (by decide)]
        rfl
    rw [e9]
    have hw : l ++ (wq 0 n ++ 46 :: wb 10 (n / 10 ^ 0)) = (l ++ [46] ++ [48 + n % 10]) ++ (if n < 10 then [] else wb 9 (n / 10)) := by
      show l ++ (46 :: (48 + n / 1 % 10) :: (if n / 1 < 10 then [] else wb 9 (n / 1 / 10))) = _
      rw [Nat.div_one]
      simp
    rw [hw]
    by_cases e : n < 10
    · rw [if_pos e, List.append_nil]
      obtain ⟨fu, rfl⟩ : ∃ f, fu = f + 1 := ⟨fu - 1, by omega⟩
      rw [f_Le_appendBackwards_b6]
      dsimp only
      rw [gI_lit 19, ite_le _ _ _ _ (by decide) (by decide), if_neg (by decide), show (0 : Int64) = gJ 0 from rfl, jte_gt _ _ _ _ (by omega) (by omega) (by decide) (by decide), if_neg (by omega), if_neg (by decide), if_neg (by decide)]
      exact ⟨h2, rfl, b2⟩
    · rw [if_neg e]
      exact w_whole (h0 := h0) (S := S) (s := s) (c0 := c0) (s0 := s0) 9 10 (n / 10) fu h2 _ (by omega) (by omega) b2 (by rw [List.length_append, List.length_append, List.length_singleton, List.length_singleton]; omega) (by omega) (by omega) 9 (by decide) (by decide) (Or.inl (by omega))
  | succ j ih =>
    intro k n fu h l hk hf q hl hn
    obtain ⟨fu, rfl⟩ : ∃ f, fu = f + 1 := ⟨fu - 1, by omega⟩
    have hn9 : n < 10 ^ 18 := Nat.lt_of_lt_of_le hn (Nat.pow_le_pow_right (by decide) (by omega))
    have hn18 : n < 1000000000000000000 := hn9
    obtain ⟨d1, d2⟩ := wr_digit n (by omega)
    obtain ⟨h1, a1, a2⟩ := lb_appC (S := S) q (48 + n % 10) (by omega) (by omega) (by decide)
    have step : f_Le_appendBackwards_b31 (f_Le_appendBackwards_b6 fu) (some s) (gN 9) (gJ (n : Int)) (gI k) (gv_ov h S) = f_Le_appendBackwards_b6 fu (some s) (gN 9) (gJ ((n / 10 : Nat) : Int)) (gI (k + 1)) (gv_ov h1 S) := by
      unfold f_Le_appendBackwards_b31 f_Le_appendBackwards_b44
      rw [gI_N k, nte_eq _ _ _ _ (by omega) (by omega) (by omega) (by omega), if_neg (by omega), lb_cv q, d1, a1, gk_ca_some, d2, gk_let_eq, gk_let_eq, ← gI_N, gI_1, gI_add]
    have enter : f_Le_appendBackwards_b6 (fu + 1) (some s) (gN 9) (gJ (n : Int)) (gI k) (gv_ov h S) = f_Le_appendBackwards_b31 (f_Le_appendBackwards_b6 fu) (some s) (gN 9) (gJ (n : Int)) (gI k) (gv_ov h S) := by
      rw [f_Le_appendBackwards_b6]
      dsimp only
      rw [gI_lit 19, ite_le _ _ _ _ (by decide) (by omega), if_neg (by omega)]
      have e9 : gI k ≤ gN 9 := by
        rw [gI_N, Int32.le_iff_toInt_le, gN_toInt _ (by omega) (by omega), gN_toInt _ (by decide) (by decide)]
        omega
      split
      · rfl
      · first | rfl | rw [if_pos e9]
    rw [enter, step]
    have hw : l ++ (wq (j + 1) n ++ 46 :: wb 10 (n / 10 ^ (j + 1))) = (l ++ [48 + n % 10]) ++ (wq j (n / 10) ++ 46 :: wb 10 (n / 10 / 10 ^ j)) := by
      rw [Nat.div_div_eq_div_mul, Nat.mul_comm 10, ← Nat.pow_succ]
      show l ++ ((48 + n % 10) :: wq j (n / 10) ++ _) = _
      simp
    rw [hw]
    exact ih (k + 1) (n / 10) fu h1 _ (by omega) (by omega) a2 (by rw [List.length_append, List.length_singleton]; omega) (by
      have : 10 ^ (j + 1 + 9) = 10 ^ (j + 9) * 10 := by rw [← Nat.pow_succ]
      omega)
theorem w_back (n : Nat) (hn : n < 9223372036854775808) (q : gp_lb h0 h s 60 c0 s0 []) : ∃ h', f_Le_appendBackwards (some s) (gJ (n : Int)) (-1 : Int32) (gv_ov h S) = some ((), gv_ov h' S) ∧ gp_lb h0 h' s 60 c0 s0 (wd n).reverse := by
  unfold f_Le_appendBackwards
  obtain ⟨h', r1, r2⟩ := w_whole (h0 := h0) (S := S) (s := s) (c0 := c0) (s0 := s0) 19 0 n gk_F h [] (by omega) (by unfold gk_F; omega) q (by decide) (by omega) hn (-1) (by decide) (by decide) (Or.inr rfl)
  refine ⟨h', ?_, ?_⟩
  · rw [gI_m1B, gI_0]
    exact r1
  · unfold wd
    rw [List.reverse_reverse]
    exact r2
theorem wb_stop : ∀ k n, n < 10 ^ k → 0 < k → wb (k + 1) n = wb k n
  | 0, _, _, h => absurd h (by decide)
  | 1, n, h, _ => by
    show (48 + n % 10) :: (if n < 10 then [] else wb 1 (n / 10)) = (48 + n % 10) :: (if n < 10 then [] else wb 0 (n / 10))
    rw [if_pos (by omega), if_pos (by omega)]
  | k + 2, n, h, _ => by
    have e : 10 ^ (k + 2) = 10 ^ (k + 1) * 10 := Nat.pow_succ 10 (k + 1)
    show (48 + n % 10) :: (if n < 10 then [] else wb (k + 2) (n / 10)) = (48 + n % 10) :: (if n < 10 then [] else wb (k + 1) (n / 10))
    rw [wb_stop (k + 1) (n / 10) (by omega) (by omega)]
theorem wb_10 {n : Nat} (h : n < 1000000000) : wb 10 n = wb 19 n := by
  have p : ∀ k, 10 ≤ k → n < 10 ^ k := fun k hk => Nat.lt_of_lt_of_le (show n < 10 ^ 10 by omega) (Nat.pow_le_pow_right (by decide) hk)
  rw [wb_stop 18 n (p 18 (by decide)) (by decide), wb_stop 17 n (p 17 (by decide)) (by decide), wb_stop 16 n (p 16 (by decide)) (by decide), wb_stop 15 n (p 15 (by decide)) (by decide), wb_stop 14 n (p 14 (by decide)) (by decide), wb_stop 13 n (p 13 (by decide)) (by decide), wb_stop 12 n (p 12 (by decide)) (by decide), wb_stop 11 n (p 11 (by decide)) (by decide), wb_stop 10 n (p 10 (by decide)) (by decide)]
theorem wq_mod : ∀ j n, wq j (n % 10 ^ j) = wq j n
  | 0, _ => rfl
  | j + 1, n => by
    have e : 10 ^ (j + 1) = 10 * 10 ^ j := by rw [Nat.pow_succ, Nat.mul_comm]
    show (48 + n % 10 ^ (j + 1) % 10) :: wq j (n % 10 ^ (j + 1) / 10) = (48 + n % 10) :: wq j (n / 10)
    rw [e, Nat.mod_mul_right_mod, Nat.mod_mul_right_div_self, wq_mod j]
theorem w_nine (n : Nat) (hn : n < 1000000000000000000) (q : gp_lb h0 h s 60 c0 s0 []) : ∃ h', f_Le_appendBackwards (some s) (gJ (n : Int)) (9 : Int32) (gv_ov h S) = some ((), gv_ov h' S) ∧ gp_lb h0 h' s 60 c0 s0 (wq 9 (n % 1000000000) ++ 46 :: (wd (n / 1000000000)).reverse) := by
  unfold f_Le_appendBackwards
  obtain ⟨h', r1, r2⟩ := w_dotted (h0 := h0) (S := S) (s := s) (c0 := c0) (s0 := s0) 9 0 n gk_F h [] (by omega) (by unfold gk_F; omega) q rfl hn
  refine ⟨h', r1, ?_⟩
  have e1 := wq_mod 9 n
  have e2 : (10 : Nat) ^ 9 = 1000000000 := by decide
  rw [e2] at e1 r2
  unfold wd
  rw [List.reverse_reverse, e1, ← wb_10 (by omega)]
  exact r2
/-- the zeros at the end, and a dot there, left out -/
theorem w_zeros (A F : List Nat) (q : gp_lb h0 h s 60 c0 s0 F) (hA : 1 ≤ A.length) (hl : F.length ≤ 60) : ∀ (B z : List Nat) (fu : Nat), F = A ++ 46 :: (B.reverse ++ z) → B.length < fu → (∀ c ∈ B, 48 ≤ c ∧ c ≤ 57) → ∃ h', f_Le_leaveOutZeros_b5 fu (some s) (gI (A.length + 1 + B.length)) (gv_ov h S) = some ((), gv_ov h' S) ∧ gp_lb h0 h' s 60 c0 s0 (A ++ (if B.dropWhile w0 = [] then [] else 46 :: (B.dropWhile w0).reverse)) := by
  have hcut : ∀ n : Nat, gI (n + 1) + -gI 1 = gI n := fun n => by
    rw [show -gI 1 = gN (-1) from by decide, gI_N, gN_add, gI_N]
    congr 1
    omega
  intro B
  induction B with
  | nil =>
    intro z fu e hf _
    obtain ⟨fu, rfl⟩ : ∃ f, fu = f + 1 := ⟨fu - 1, by omega⟩
    have e' : F = A ++ 46 :: z := e
    have hl2 : F.length = A.length + 1 + z.length := by rw [e']; simp; omega
    have hch : F.getD A.length 0 = 46 := by rw [e']; exact gp_mid A _ 46
    have ec := lb_char (S := S) q A.length (by omega)
    rw [hch] at ec
    rw [f_Le_leaveOutZeros_b5]
    dsimp only
    unfold f_Le_leaveOutZeros_b28 f_Le_leaveOutZeros_b48
    obtain ⟨h', r1, r2⟩ := lb_cut (S := S) q A.length (by omega) (by omega) (by decide)
    rw [List.length_nil, Nat.add_zero, gI_1, ite_le _ _ _ _ (by omega) (by decide), if_neg (by omega), gI_sub _ _ (by omega), Nat.add_sub_cancel, lb_cv q, ec, gk_ca_some, gI_lit 48, ite_eq _ _ _ _ (by decide) (by decide), if_neg (by decide), ite_le _ _ _ _ (by omega) (by decide), if_neg (by omega), lb_cv q, ec, gk_ca_some, gI_lit 46, if_pos rfl, gk_let_eq, hcut, lb_cv q, r1, gk_ca_some]
    refine ⟨h', rfl, ?_⟩
    show gp_lb h0 h' s 60 c0 s0 (A ++ (if ([] : List Nat) = [] then [] else _))
    rw [if_pos rfl, List.append_nil]
    rw [e', List.take_left] at r2
    exact r2
  | cons c B ih =>
    intro z fu e hf hd
    obtain ⟨fu, rfl⟩ : ∃ f, fu = f + 1 := ⟨fu - 1, by omega⟩
    rw [List.length_cons] at hf ⊢
    have e1 : F = (A ++ 46 :: B.reverse) ++ c :: z := by rw [e]; simp
    have hl1 : (A ++ 46 :: B.reverse).length = A.length + 1 + B.length := by simp; omega
    have hl2 : F.length = A.length + 1 + B.length + (z.length + 1) := by rw [e1, List.length_append, hl1, List.length_cons]
    have hch : F.getD (A.length + 1 + B.length) 0 = c := by rw [← hl1, e1]; exact gp_mid _ z c
    have ec := lb_char (S := S) q (A.length + 1 + B.length) (by omega)
    rw [hch] at ec
    have hc := hd c List.mem_cons_self
    rw [f_Le_leaveOutZeros_b5]
    dsimp only
    rw [gI_1, ite_le _ _ _ _ (by omega) (by decide), if_neg (by omega), gI_sub _ _ (by omega), show A.length + 1 + (B.length + 1) - 1 = A.length + 1 + B.length from by omega, lb_cv q, ec, gk_ca_some, gI_lit 48, ite_eq _ _ _ _ (by omega) (by decide), List.dropWhile_cons]
    by_cases y : c = 48
    · rw [if_pos y, gk_let_eq, show A.length + 1 + (B.length + 1) = A.length + 1 + B.length + 1 from by omega, hcut, if_pos (show w0 c = true by rw [y]; rfl)]
      exact ih (c :: z) fu (by rw [e]; simp) (by omega) (fun x hx => hd x (List.mem_cons_of_mem _ hx))
    · have hw : ¬ w0 c = true := by unfold w0; simp [y]
      rw [if_neg y, if_neg hw, if_neg (by simp)]
      unfold f_Le_leaveOutZeros_b28 f_Le_leaveOutZeros_b48
      obtain ⟨h', r1, r2⟩ := lb_cut (S := S) q (A.length + 1 + (B.length + 1)) (by omega) (by omega) (by decide)
      rw [gI_1, ite_le _ _ _ _ (by omega) (by decide), if_neg (by omega), gI_sub _ _ (by omega), show A.length + 1 + (B.length + 1) - 1 = A.length + 1 + B.length from by omega, lb_cv q, ec, gk_ca_some, gI_lit 46, ite_eq _ _ _ _ (by omega) (by decide), if_neg (by omega), lb_cv q, r1, gk_ca_some]
      refine ⟨h', rfl, ?_⟩
      have e2 : F = (A ++ 46 :: (c :: B).reverse) ++ z := by rw [e]; simp
      have hl3 : (A ++ 46 :: (c :: B).reverse).length = A.length + 1 + (B.length + 1) := by simp; omega
      rw [← hl3, e2, List.take_left] at r2
      exact r2
theorem w_leave (A F : List Nat) (B : List Nat) (q : gp_lb h0 h s 60 c0 s0 F) (hA : 1 ≤ A.length) (hl : F.length ≤ 60) (e : F = A ++ 46 :: B.reverse) (hd : ∀ c ∈ B, 48 ≤ c ∧ c ≤ 57) : ∃ h', f_Le_leaveOutZeros (some s) (gv_ov h S) = some ((), gv_ov h' S) ∧ gp_lb h0 h' s 60 c0 s0 (A ++ (if B.dropWhile w0 = [] then [] else 46 :: (B.dropWhile w0).reverse)) := by
  unfold f_Le_leaveOutZeros
  have hF : F.length = A.length + 1 + B.length := by rw [e]; simp; omega
  obtain ⟨h', r1, r2⟩ := w_zeros (S := S) A F q hA hl B [] gk_F (by rw [List.append_nil]; exact e) (by unfold gk_F; omega) hd
  rw [lb_cv q, lb_len q, gk_ca_some, hF]
  exact ⟨h', r1, r2⟩
theorem wq_zero : ∀ j n, n < 10 ^ j → ((wq j n).dropWhile w0 = [] ↔ n = 0)
  | 0, n, h => by
    have : n = 0 := by
      have h' : n < 1 := h
      omega
    exact ⟨fun _ => this, fun _ => rfl⟩
  | j + 1, n, h => by
    have e : 10 ^ (j + 1) = 10 ^ j * 10 := Nat.pow_succ 10 j
    show ((48 + n % 10) :: wq j (n / 10)).dropWhile w0 = [] ↔ _
    rw [List.dropWhile_cons]
    by_cases z : n % 10 = 0
    · rw [if_pos (show w0 (48 + n % 10) = true by rw [z]; rfl), wq_zero j (n / 10) (by omega)]
      omega
    · rw [if_neg (show ¬ w0 (48 + n % 10) = true by unfold w0; simp; omega)]
      constructor
      · intro q
        cases q
      · intro q
        omega
theorem wd_len (n : Nat) : 1 ≤ (wd n).length ∧ (wd n).length ≤ 19 := by
  unfold wd
  rw [List.length_reverse]
  refine ⟨?_, wb_len 19 n⟩
  show 1 ≤ ((48 + n % 10) :: _).length
  rw [List.length_cons]
  omega
theorem wd_dig (n : Nat) : ∀ c ∈ wd n, 48 ≤ c ∧ c ≤ 57 := fun c hc => wb_dig 19 n c (List.mem_reverse.mp hc)
theorem wr_s_ok (x : UInt64) : (wr_s x).length ≤ 1 ∧ ∀ c ∈ wr_s x, c = 45 := by
  unfold wr_s
  split
  · exact ⟨Nat.le_refl _, fun c hc => List.mem_singleton.mp hc⟩
  · exact ⟨Nat.zero_le _, fun c hc => absurd hc List.not_mem_nil⟩
theorem dropWhile_len (f : Nat → Bool) : ∀ l : List Nat, (l.dropWhile f).length ≤ l.length
  | [] => Nat.le_refl _
  | c :: l => by
    rw [List.dropWhile_cons]
    split
    · have := dropWhile_len f l
      rw [List.length_cons]; omega
    · exact Nat.le_refl _
theorem dropWhile_mem (f : Nat → Bool) : ∀ (l : List Nat) (c : Nat), c ∈ l.dropWhile f → c ∈ l
  | [], c, h => h
  | x :: l, c, h => by
    rw [List.dropWhile_cons] at h
    split at h
    · exact List.mem_cons_of_mem _ (dropWhile_mem f l c h)
    · exact h
theorem wr_ch (x : UInt64) : (wr x).length ≤ 40 ∧ ∀ c ∈ wr x, 45 ≤ c ∧ c ≤ 57 := by
  obtain ⟨s1, s2⟩ := wr_s_ok x
  have hb : (wr_b (wr_y x)).length ≤ 39 ∧ ∀ c ∈ wr_b (wr_y x), 45 ≤ c ∧ c ≤ 57 := by
    unfold wr_b
    split
    · have := wd_len (wr_n (wr_y x))
      exact ⟨by omega, fun c hc => by have := wd_dig _ c hc; omega⟩
    · split
      · have h1 := wd_len (wr_n (wr_f (wr_y x)) / 1000000000)
        refine ⟨?_, fun c hc => ?_⟩
        · rw [List.length_append]
          split
          · rw [List.length_nil]; omega
          · have h2 := dropWhile_len w0 (wq 9 (wr_n (wr_f (wr_y x)) % 1000000000))
            rw [wq_len] at h2
            rw [List.length_cons, List.length_reverse]; omega
        · rcases List.mem_append.mp hc with hc | hc
          · have := wd_dig _ c hc; omega
          · split at hc
            · exact absurd hc List.not_mem_nil
            · rcases List.mem_cons.mp hc with hc | hc
              · omega
              · have := wq_dig 9 _ c (dropWhile_mem _ _ c (List.mem_reverse.mp hc)); omega
      · have := wd_len (wr_n (wr_h (wr_y x)))
        exact ⟨by omega, fun c hc => by have := wd_dig _ c hc; omega⟩
  unfold wr
  rw [List.length_append]
  refine ⟨by omega, fun c hc => ?_⟩
  rcases List.mem_append.mp hc with hc | hc
  · have := s2 c hc; omega
  · exact hb.2 c hc
end WRC
section WRW
variable {h : gk_H} {S : gv_S}
theorem m_canWrite {x : UInt64} (hx : fd_n x) (h : gk_H) : f_Le_canBeWritten x h = some (gB (decide (-4831355200913801216 < fd_k x ∧ fd_k x < 4831355200913801216)), h) := by
  unfold f_Le_canBeWritten f_Le_canBeWritten_b20 f_Le_canBeWritten_b21
  rw [fi_ge _ _ hx fd_15_n, fi_le _ _ hx fd_m15_n, fd_15_k, fd_m15_k, nb0, nb1]
  by_cases e1 : 4831355200913801216 ≤ fd_k x
  · rw [if_pos e1, decide_eq_false (by omega)]
    rfl
  · rw [if_neg e1]
    by_cases e2 : fd_k x ≤ -4831355200913801216
    · rw [if_pos e2, decide_eq_false (by omega)]
      rfl
    · rw [if_neg e2, decide_eq_true (by omega)]
      rfl
theorem m_written {x : UInt64} (hs : gp_st h) (b : Nat) (hb : b < h.1) (hn : fd_n x) (hc : fd_c x = x) (h1 : -4831355200913801216 < fd_k x) (h2 : fd_k x < 4831355200913801216) : ∃ r h', f_Le_written x (gv_ov h S) = some (some r, gv_ov h' S) ∧ gp_str b h' r (wr x) ∧ gp_st h' ∧ gp_ext 11 336 h h' := by
  obtain ⟨y1, y2⟩ := wr_yn hn
  have yk : 0 ≤ fd_k (wr_y x) ∧ fd_k (wr_y x) < 4831355200913801216 := by rw [y2]; split <;> omega
  have yp : fd_p (wr_y x) := by
    by_cases z : fd_k x < 0
    · refine fd_p_k y1 ?_
      rw [y2, if_pos z]
      omega
    · have : wr_y x = x := if_neg z
      rw [this] at yk y1 ⊢
      exact fd_p_c y1 yk.1 hc
  obtain ⟨w1, w2, w3⟩ := fd_wn y1 yk.1 (by omega)
  have w4 := fd_wn15 y1 yk.1 yk.2
  have hLn : fd_n (FP.l2d (FP.d2l (wr_y x))) := (fd_l2df _).n
  have hwin : -4845873199050653696 < fd_k (wr_y x) ∧ fd_k (wr_y x) < 4845873199050653696 := by omega
  obtain ⟨h1', n1, n2⟩ := lb_new (S := S) (h0 := h) hs.1 hs (gp_ext.refl h) 60
  -- the end, from the digits on
  have b118 : ∀ (h2 : gk_H), gp_lb h h2 h.1 60 2 0 (wr x) → ∃ r h', f_Le_written_b118 (some h.1) (gv_ov h2 S) = some (some r, gv_ov h' S) ∧ gp_str b h' r (wr x) ∧ gp_st h' ∧ gp_ext 11 336 h h' := by
    intro h2 q
    have hl := (wr_ch x).1
    obtain ⟨r, h', e1, e2, e3, e4⟩ := lb_str (S := S) q b hb (by omega)
    unfold f_Le_written_b118
    rw [lb_cv q, e1, gk_ca_some]
    exact ⟨r, h', rfl, e2, e3, e4.le (by decide) (by decide)⟩
  have b79 : ∀ (h2 : gk_H) (D : List Nat), gp_lb h h2 h.1 60 2 0 D → D.length ≤ 50 → (∀ c ∈ D, c < 128) → ((fd_k (FP.l2d (FP.d2l (wr_y x))) = fd_k (wr_y x) ∨ 4696837146684686336 ≤ fd_k (wr_y x)) → D.reverse = wr_b (wr_y x)) → (fd_k (FP.l2d (FP.d2l (wr_y x))) ≠ fd_k (wr_y x) → fd_k (wr_y x) < 4696837146684686336 → D = wq 9 (wr_n (wr_f (wr_y x)) % 1000000000) ++ 46 :: (wd (wr_n (wr_f (wr_y x)) / 1000000000)).reverse) → ∃ r h', f_Le_written_b79 x (some h.1) (wr_y x) (gv_ov h2 S) = some (some r, gv_ov h' S) ∧ gp_str b h' r (wr x) ∧ gp_st h' ∧ gp_ext 11 336 h h' := by
    intro h2 D q hD hDc g1 g2
    have b92 : ∀ (h3 : gk_H), gp_lb h h3 h.1 60 2 0 (D ++ (wr_s x).reverse) → ∃ r h', f_Le_written_b92 (some h.1) (wr_y x) (gv_ov h3 S) = some (some r, gv_ov h' S) ∧ gp_str b h' r (wr x) ∧ gp_st h' ∧ gp_ext 11 336 h h' := by
      intro h3 q3
      have hsl := (wr_s_ok x).1
      obtain ⟨h4, r1, r2⟩ := lb_rev (S := S) q3 (by rw [List.length_append, List.length_reverse]; omega)
      rw [List.reverse_append, List.reverse_reverse] at r2
      unfold f_Le_written_b92
      rw [lb_cv q3, r1, gk_ca_some, m_wholePart y1, gk_ca_some, if_pos hwin, fi_eq _ _ y1 hLn, fi_ge _ _ y1 fd_6_n, fd_6_k]
      by_cases z1 : fd_k (wr_y x) = fd_k (FP.l2d (FP.d2l (wr_y x)))
      · rw [if_pos z1]
        refine b118 h4 ?_
        rw [g1 (Or.inl z1.symm)] at r2
        exact r2
      · rw [if_neg z1]
        by_cases z2 : 4696837146684686336 ≤ fd_k (wr_y x)
        · rw [if_pos z2]
          refine b118 h4 ?_
          rw [g1 (Or.inr z2)] at r2
          exact r2
        · rw [if_neg z2]
          have hDD := g2 (fun z => z1 z.symm) (by omega)
          rw [hDD, List.reverse_append, List.reverse_cons, List.reverse_reverse, List.append_assoc] at r2
          have e1 : wr_s x ++ (wd (wr_n (wr_f (wr_y x)) / 1000000000) ++ ([46] ++ (wq 9 (wr_n (wr_f (wr_y x)) % 1000000000)).reverse)) = (wr_s x ++ wd (wr_n (wr_f (wr_y x)) / 1000000000)) ++ 46 :: (wq 9 (wr_n (wr_f (wr_y x)) % 1000000000)).reverse := by simp
          have hw := wd_len (wr_n (wr_f (wr_y x)) / 1000000000)
          obtain ⟨h5, t1, t2⟩ := w_leave (S := S) (wr_s x ++ wd (wr_n (wr_f (wr_y x)) / 1000000000)) _ (wq 9 (wr_n (wr_f (wr_y x)) % 1000000000)) r2 (by rw [List.length_append]; omega) (by rw [e1, List.length_append, List.length_append, List.length_cons, List.length_reverse, wq_len]; omega) e1 (wq_dig 9 _)
          rw [t1, gk_ca_some]
          refine b118 h5 ?_
          have e2 : wr x = (wr_s x ++ wd (wr_n (wr_f (wr_y x)) / 1000000000)) ++ (if (wq 9 (wr_n (wr_f (wr_y x)) % 1000000000)).dropWhile w0 = [] then [] else 46 :: ((wq 9 (wr_n (wr_f (wr_y x)) % 1000000000)).dropWhile w0).reverse) := by
            unfold wr wr_b
            rw [if_neg (fun z => z1 z.symm), if_pos (by omega), List.append_assoc]
            have hz := wq_zero 9 (wr_n (wr_f (wr_y x)) % 1000000000) (Nat.mod_lt _ (by decide))
            by_cases z3 : wr_n (wr_f (wr_y x)) % 1000000000 = 0
            · rw [if_pos z3, if_pos (hz.mpr z3)]
            · rw [if_neg z3, if_neg (fun w => z3 (hz.mp w))]
          rw [e2]
          exact t2
    unfold f_Le_written_b79
    rw [fi_ge _ _ hn fd_0_n, fd_k0]
    by_cases z : 0 ≤ fd_k x
    · rw [if_pos z]
      refine b92 h2 ?_
      have : wr_s x = [] := if_neg (by omega)
      rw [this, List.reverse_nil, List.append_nil]
      exact q
    · rw [if_neg z]
      obtain ⟨h3, a1, a2⟩ := lb_appC (S := S) q 45 (by decide) (by omega) (by decide)
      rw [lb_cv q, gI_lit 45, a1, gk_ca_some]
      refine b92 h3 ?_
      have : wr_s x = [45] := if_pos (by omega)
      rw [this]
      exact a2
  have b21 : ∃ r h', f_Le_written_b21 x (some h.1) (wr_y x) (gv_ov h1' S) = some (some r, gv_ov h' S) ∧ gp_str b h' r (wr x) ∧ gp_st h' ∧ gp_ext 11 336 h h' := by
    unfold f_Le_written_b21
    rw [m_wholePart y1, gk_ca_some, if_pos hwin, fi_eq _ _ y1 hLn, fi_ge _ _ y1 fd_6_n, fd_6_k]
    by_cases z1 : fd_k (wr_y x) = fd_k (FP.l2d (FP.d2l (wr_y x)))
    · obtain ⟨h3, a1, a2⟩ := w_back (S := S) (wr_n (wr_y x)) (by omega) n2
      have hwl := wd_len (wr_n (wr_y x))
      rw [if_pos z1, w1, a1, gk_ca_some]
      refine b79 h3 _ a2 (by rw [List.length_reverse]; omega) (fun c hc => by have := wd_dig _ c (List.mem_reverse.mp hc); omega) (fun _ => ?_) (fun z => absurd z1.symm z)
      unfold wr_b
      rw [if_pos z1.symm, List.reverse_reverse]
    · rw [if_neg z1]
      by_cases z2 : 4696837146684686336 ≤ fd_k (wr_y x)
      · obtain ⟨p1, p2⟩ := wr_h_ok yp yk.2
        obtain ⟨v1, v2, v3⟩ := fd_wn p1.1 p1.k p2
        obtain ⟨h3, a1, a2⟩ := w_back (S := S) (wr_n (wr_h (wr_y x))) (by omega) n2
        have hwl := wd_len (wr_n (wr_h (wr_y x)))
        have e0 : FP.dadd (wr_y x) 0x3fe0000000000000 = wr_h (wr_y x) := rfl
        rw [if_pos z2, e0, fd_dop p1.1, v1, a1, gk_ca_some]
        refine b79 h3 _ a2 (by rw [List.length_reverse]; omega) (fun c hc => by have := wd_dig _ c (List.mem_reverse.mp hc); omega) (fun _ => ?_) (fun _ z => absurd z2 (by omega))
        unfold wr_b
        rw [if_neg (fun z => z1 z.symm), if_neg (by omega), List.reverse_reverse]
      · obtain ⟨p0, p1, p2, p3⟩ := wr_f_ok yp (by omega)
        obtain ⟨v1, v2, v3⟩ := fd_wn p2.1 p2.k p3
        obtain ⟨h3, a1, a2⟩ := w_nine (S := S) (wr_n (wr_f (wr_y x))) (by omega) n2
        have hwl := wd_len (wr_n (wr_f (wr_y x)) / 1000000000)
        have e0 : FP.dadd (FP.dmul (wr_y x) 0x41cdcd6500000000) 0x3fe0000000000000 = wr_f (wr_y x) := rfl
        rw [if_neg z2, fd_dop p1, e0, fd_dop p2.1, v1, a1, gk_ca_some]
        refine b79 h3 _ a2 (by rw [List.length_append, wq_len, List.length_cons, List.length_reverse]; omega) (fun c hc => by
          rcases List.mem_append.mp hc with hc | hc
          · have := wq_dig 9 _ c hc; omega
          · rcases List.mem_cons.mp hc with hc | hc
            · omega
            · have := wd_dig _ c (List.mem_reverse.mp hc); omega) (fun z => ?_) (fun _ _ => rfl)
        rcases z with z | z
        · exact absurd z.symm z1
        · exact absurd z z2
  unfold f_Le_written
  rw [n1, fi_ge _ _ hn fd_0_n, fd_k0]
  by_cases z : 0 ≤ fd_k x
  · have : wr_y x = x := if_neg (by omega)
    rw [if_pos z]
    rw [this] at b21
    exact b21
  · have e : FP.dsub 0 x = wr_y x := by
      rw [fd_neg_eq hn (by omega)]
      exact (if_pos (by omega)).symm
    rw [if_neg z, e, fd_dop y1]
    exact b21
end WRW
