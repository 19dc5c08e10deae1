/-! THE PURE PART: great and small letters, their order; the arguments (the class) -/
def gN (z : Int) : Int32 := Int32.ofInt z
theorem gI_N (n : Nat) : gI n = gN (n : Int) := Int32.ofInt_eq_ofNat.symm
theorem gN_sub (a b : Int) : gN a - gN b = gN (a - b) := (Int32.ofInt_sub a b).symm
theorem gN_add (a b : Int) : gN a + gN b = gN (a + b) := (Int32.ofInt_add a b).symm
theorem gN_mul (a b : Int) : gN a * gN b = gN (a * b) := (Int32.ofInt_mul a b).symm
theorem gN_toInt (a : Int) (h1 : -2147483648 ≤ a) (h2 : a < 2147483648) : (gN a).toInt = a := Int32.toInt_ofInt_of_le h1 h2
theorem gI_subN (a b : Nat) : gI a - gI b = gN ((a : Int) - (b : Int)) := by rw [gI_N, gI_N, gN_sub]
theorem nte_eq {β : Sort _} (x y : β) (a b : Int) (h1 : -2147483648 ≤ a) (h2 : a < 2147483648) (h3 : -2147483648 ≤ b) (h4 : b < 2147483648) : (if gN a = gN b then x else y) = if a = b then x else y := by
  have e : (gN a = gN b) ↔ a = b := by rw [← Int32.toInt_inj, gN_toInt a h1 h2, gN_toInt b h3 h4]
  by_cases q : a = b
  · rw [if_pos q, if_pos (e.mpr q)]
  · rw [if_neg q, if_neg (fun z => q (e.mp z))]
theorem nte_lt {β : Sort _} (x y : β) (a b : Int) (h1 : -2147483648 ≤ a) (h2 : a < 2147483648) (h3 : -2147483648 ≤ b) (h4 : b < 2147483648) : (if gN a < gN b then x else y) = if a < b then x else y := by
  have e : (gN a < gN b) ↔ a < b := by rw [Int32.lt_iff_toInt_lt, gN_toInt a h1 h2, gN_toInt b h3 h4]
  by_cases q : a < b
  · rw [if_pos q, if_pos (e.mpr q)]
  · rw [if_neg q, if_neg (fun z => q (e.mp z))]
theorem nte_le {β : Sort _} (x y : β) (a b : Int) (h1 : -2147483648 ≤ a) (h2 : a < 2147483648) (h3 : -2147483648 ≤ b) (h4 : b < 2147483648) : (if gN a ≤ gN b then x else y) = if a ≤ b then x else y := by
  have e : (gN a ≤ gN b) ↔ a ≤ b := by rw [Int32.le_iff_toInt_le, gN_toInt a h1 h2, gN_toInt b h3 h4]
  by_cases q : a ≤ b
  · rw [if_pos q, if_pos (e.mpr q)]
  · rw [if_neg q, if_neg (fun z => q (e.mp z))]
theorem gN_0 : (0 : Int32) = gN 0 := rfl
/-- a letter as a great, a small one -/
def nl_g (c : Nat) : Nat := if 97 ≤ c ∧ c ≤ 122 then c - 32 else c
def nl_sm (c : Nat) : Nat := if 65 ≤ c ∧ c ≤ 90 then c + 32 else c
theorem nl_g_lt {c : Nat} (h : c < 128) : nl_g c < 128 := by
  unfold nl_g
  split <;> omega
theorem nl_sm_lt {c : Nat} (h : c < 128) : nl_sm c < 128 := by
  unfold nl_sm
  split <;> omega
theorem n_great (c : Nat) (hc : c < 128) (h : gk_H) : f_Le_great (gI c) h = some (gI (nl_g c), h) := by
  have : ∀ (c : Fin 128), (if gI c.val < (97 : Int32) then (if narrow .char (.int (gI c.val)) = .int (gI c.val) then some (gI c.val) else none) else if (122 : Int32) < gI c.val then (if narrow .char (.int (gI c.val)) = .int (gI c.val) then some (gI c.val) else none) else (if narrow .char (.int (UInt32.toInt32 (Int32.toUInt32 ((gI c.val - (97 : Int32)) + (65 : Int32)) % 65536))) = .int (UInt32.toInt32 (Int32.toUInt32 ((gI c.val - (97 : Int32)) + (65 : Int32)) % 65536)) then some (UInt32.toInt32 (Int32.toUInt32 ((gI c.val - (97 : Int32)) + (65 : Int32)) % 65536)) else none)) = some (gI (nl_g c.val)) := by decide +kernel
  have h2 := this ⟨c, hc⟩
  dsimp only at h2
  unfold f_Le_great f_Le_great_b23 f_Le_great_b24
  by_cases e1 : gI c < (97 : Int32)
  · rw [if_pos e1] at h2 ⊢
    by_cases e2 : narrow .char (.int (gI c)) = .int (gI c)
    · rw [if_pos e2] at h2 ⊢
      injection h2 with h2
      rw [← h2]
    · rw [if_neg e2] at h2
      cases h2
  · rw [if_neg e1] at h2 ⊢
    by_cases e3 : (122 : Int32) < gI c
    · rw [if_pos e3] at h2 ⊢
      by_cases e2 : narrow .char (.int (gI c)) = .int (gI c)
      · rw [if_pos e2] at h2 ⊢
        injection h2 with h2
        rw [← h2]
      · rw [if_neg e2] at h2
        cases h2
    · rw [if_neg e3] at h2 ⊢
      split at h2
      · rename_i e4
        rw [if_pos e4]
        injection h2 with h2
        rw [h2]
      · cases h2
theorem n_small (c : Nat) (hc : c < 128) (h : gk_H) : f_Le_small (gI c) h = some (gI (nl_sm c), h) := by
  have : ∀ (c : Fin 128), (if gI c.val < (65 : Int32) then (if narrow .char (.int (gI c.val)) = .int (gI c.val) then some (gI c.val) else none) else if (90 : Int32) < gI c.val then (if narrow .char (.int (gI c.val)) = .int (gI c.val) then some (gI c.val) else none) else (if narrow .char (.int (UInt32.toInt32 (Int32.toUInt32 ((gI c.val - (65 : Int32)) + (97 : Int32)) % 65536))) = .int (UInt32.toInt32 (Int32.toUInt32 ((gI c.val - (65 : Int32)) + (97 : Int32)) % 65536)) then some (UInt32.toInt32 (Int32.toUInt32 ((gI c.val - (65 : Int32)) + (97 : Int32)) % 65536)) else none)) = some (gI (nl_sm c.val)) := by decide +kernel
  have h2 := this ⟨c, hc⟩
  dsimp only at h2
  unfold f_Le_small f_Le_small_b23 f_Le_small_b24
  by_cases e1 : gI c < (65 : Int32)
  · rw [if_pos e1] at h2 ⊢
    by_cases e2 : narrow .char (.int (gI c)) = .int (gI c)
    · rw [if_pos e2] at h2 ⊢
      injection h2 with h2
      rw [← h2]
    · rw [if_neg e2] at h2
      cases h2
  · rw [if_neg e1] at h2 ⊢
    by_cases e3 : (90 : Int32) < gI c
    · rw [if_pos e3] at h2 ⊢
      by_cases e2 : narrow .char (.int (gI c)) = .int (gI c)
      · rw [if_pos e2] at h2 ⊢
        injection h2 with h2
        rw [← h2]
      · rw [if_neg e2] at h2
        cases h2
    · rw [if_neg e3] at h2 ⊢
      split at h2
      · rename_i e4
        rw [if_pos e4]
        injection h2 with h2
        rw [h2]
      · cases h2
/-- the order of two texts, below, at or above 0 -/
def nl_ord : List Nat → List Nat → Int
  | [], t => -(t.length : Int)
  | c :: l, [] => ((c :: l).length : Int)
  | c :: l, d :: t => if nl_g c = nl_g d then nl_ord l t else (nl_g c : Int) - (nl_g d : Int)
theorem nl_ord_bound : ∀ (l t : List Nat), (∀ c ∈ l, c < 128) → (∀ c ∈ t, c < 128) → l.length ≤ 100000 → t.length ≤ 100000 → -100000 ≤ nl_ord l t ∧ nl_ord l t ≤ 100000 := by
  intro l
  induction l with
  | nil => intro t _ _ _ _; unfold nl_ord; omega
  | cons c l ih =>
    intro t h1 h2 h3 h4
    cases t with
    | nil => unfold nl_ord; omega
    | cons d t =>
      unfold nl_ord
      rw [List.length_cons] at h3 h4
      split
      · exact ih t (fun x hx => h1 x (List.mem_cons_of_mem _ hx)) (fun x hx => h2 x (List.mem_cons_of_mem _ hx)) (by omega) (by omega)
      · have a1 := nl_g_lt (h1 c List.mem_cons_self)
        have a2 := nl_g_lt (h2 d List.mem_cons_self)
        omega
section GPO
variable {b i j : Nat} {h : gk_H} {S : gv_S}
theorem n_ord (hs : gp_st h) : ∀ (l t p q : List Nat) (fu : Nat), gp_str b h i (p ++ l) → gp_str b h j (q ++ t) → p.length = q.length → l.length < fu → f_Le_order_b14 fu (some i) (some j) (gI (min (p ++ l).length (q ++ t).length)) (gI p.length) (gv_ov h S) = some (gN (nl_ord l t), gv_ov h S) := by
  intro l
  induction l with
  | nil =>
    intro t p q fu a c hpq hf
    obtain ⟨fu, rfl⟩ : ∃ f, fu = f + 1 := ⟨fu - 1, by omega⟩
    have ha := a
    have hc := c
    obtain ⟨-, a2, a3, -, x, -, -, -, -, -, g3, -⟩ := a
    obtain ⟨-, c2, c3, -, y, -, -, -, -, -, k3, -⟩ := c
    rw [f_Le_order_b14]
    dsimp only
    have l1 : (p ++ []).length = p.length := by simp
    have l2 : (q ++ t).length = q.length + t.length := by simp
    rw [ite_le _ _ _ _ (by omega) (by omega), if_pos (by omega), gp_cv a2.1 a3, s_len hs ha, gk_ca_some, gp_cv c2.1 c3, s_len hs hc, gk_ca_some, gI_subN, l1, l2]
    unfold nl_ord
    congr 3
    omega
  | cons c l ih =>
    intro t p q fu a d hpq hf
    obtain ⟨fu, rfl⟩ : ∃ f, fu = f + 1 := ⟨fu - 1, by omega⟩
    have ha := a
    have hd := d
    obtain ⟨-, a2, a3, -, x, -, -, -, -, -, g3, g4⟩ := a
    obtain ⟨-, d2, d3, -, y, -, -, -, -, -, k3, k4⟩ := d
    rw [f_Le_order_b14]
    dsimp only
    have l1 : (p ++ c :: l).length = p.length + (l.length + 1) := by simp
    have l2 : (q ++ t).length = q.length + t.length := by simp
    rw [List.length_cons] at hf
    cases t with
    | nil =>
      rw [List.length_nil] at l2
      rw [ite_le _ _ _ _ (by omega) (by omega), if_pos (by omega), gp_cv a2.1 a3, s_len hs ha, gk_ca_some, gp_cv d2.1 d3, s_len hs hd, gk_ca_some, gI_subN, l1, l2]
      unfold nl_ord
      rw [List.length_cons]
      congr 3
      omega
    | cons e t =>
      rw [List.length_cons] at l2
      have k1 : p.length < (p ++ c :: l).length := by omega
      have k2 : p.length < (q ++ e :: t).length := by omega
      have hc1 := (g4 _ k1).2
      have hc2 := (k4 _ k2).2
      rw [gp_mid] at hc1
      rw [hpq, gp_mid] at hc2
      rw [ite_le _ _ _ _ (by omega) (by omega), if_neg (by omega), gp_cv a2.1 a3, s_charAt hs ha k1, gp_mid, gk_ca_some, n_great _ hc1, gk_ca_some, gp_cv d2.1 d3, s_charAt hs hd k2, hpq, gp_mid, gk_ca_some, n_great _ hc2, gk_ca_some, gI_subN, gk_let_eq, gN_0]
      have g1 := nl_g_lt hc1
      have g2 := nl_g_lt hc2
      rw [nte_eq _ _ _ _ (by omega) (by omega) (by decide) (by decide)]
      unfold nl_ord
      by_cases z : nl_g c = nl_g e
      · rw [if_pos z, if_pos (by omega), gk_let_eq, gI_1, gI_add]
        have := ih t (p ++ [c]) (q ++ [e]) fu (by rw [← gp_app1]; exact ha) (by rw [← gp_app1]; exact hd) (by simp [hpq]) (by omega)
        have e9 : (p ++ [c]).length = q.length + 1 := by simp [hpq]
        rw [e9, ← gp_app1, ← gp_app1] at this
        exact this
      · rw [if_neg z, if_neg (by omega)]
theorem n_order (hs : gp_st h) {l t : List Nat} (a : gp_str b h i l) (c : gp_str b h j t) (hl : l.length ≤ 1000) (ht : t.length ≤ 1000) : f_Le_order (some i) (some j) (gv_ov h S) = some (gN (nl_ord l t), gv_ov h S) := by
  have ha := a
  have hc := c
  obtain ⟨-, a2, a3, -⟩ := a
  obtain ⟨-, c2, c3, -⟩ := c
  unfold f_Le_order
  rw [gp_cv a2.1 a3, s_len hs ha, gk_ca_some, gp_cv c2.1 c3, s_len hs hc, gk_ca_some, f_min _ _ (by omega) (by omega), gk_ca_some]
  exact n_ord hs l t [] [] gk_F ha hc rfl (by unfold gk_F; omega)
end GPO
/-- the arguments as the single values that they are -/
def sp_1 (V : gp_V) : gp_C := if V.2.1 * V.2.2.1 = 1 then V.2.2.2 0 else gc_e 3
/-- the first error is kept -/
def bl (f e : Nat) : Nat := if f = 0 then e else f
def sp_err (c : gp_C) : Nat := if c.1 = 4 then c.2.1 else 0
/-- a number wanted: the error (0 none), the number -/
def sp_num (c : gp_C) : Nat × UInt64 := if c.1 = 1 then (0, c.2.2.1) else if c.1 = 2 then (if nl_is c.2.2.2 = true then (0, nl_val c.2.2.2) else (3, 0)) else if c.1 = 3 then (0, FP.i2d (gI c.2.1)) else (sp_err c, 0)
def sp_in (x : UInt64) : Prop := -4845873199050653696 < fd_k x ∧ fd_k x < 4845873199050653696
/-- a whole number wanted -/
def sp_who (c : gp_C) : Nat × Int64 := if -4845873199050653696 < fd_k (sp_num c).2 ∧ fd_k (sp_num c).2 < 4845873199050653696 then ((sp_num c).1, FP.d2l (sp_num c).2) else (6, 0)
/-- a truth wanted -/
def nl_T : List Nat := [84, 82, 85, 69]
def nl_F : List Nat := [70, 65, 76, 83, 69]
def sp_tru (c : gp_C) : Nat × Bool := if c.1 = 2 then (if nl_ord c.2.2.2 nl_T = 0 then (0, true) else if nl_ord c.2.2.2 nl_F = 0 then (0, false) else (3, false)) else (sp_err c, decide (fd_k c.2.2.1 ≠ 0 ∨ c.1 = 3 ∧ c.2.1 = 1))
/-- the class's arguments: the fault, the row -/
def gA (S : gv_S) (f : Nat) (row : List UInt64) : gv_S := (fun a b => if a = 20 ∧ b = 3 then gI f else if a = 20 ∧ b = 5 then gI row.length else S.1 a b, fun a b => if a = 23 ∧ b < row.length then row.getD b 0 else S.2.1 a b, S.2.2)
theorem gA_fault (S : gv_S) (f : Nat) (row : List UInt64) : (gA S f row).1 20 3 = gI f := rfl
theorem gA_in (S : gv_S) (f : Nat) (row : List UInt64) : (gA S f row).1 20 5 = gI row.length := rfl
theorem gA_2 (S : gv_S) (f : Nat) (row : List UInt64) : (gA S f row).1 20 2 = S.1 20 2 := rfl
theorem gA_refs (S : gv_S) (f : Nat) (row : List UInt64) : (gA S f row).2.2 = S.2.2 := rfl
theorem gA_setF (S : gv_S) (f e : Nat) (row : List UInt64) : gv_uI (gA S f row) 20 3 (gI e) = gA S e row := by
  unfold gv_uI gA
  refine Prod.ext (funext fun a => funext fun b => ?_) rfl
  show (if a = 20 ∧ b = 3 then gI e else if a = 20 ∧ b = 3 then gI f else _) = if a = 20 ∧ b = 3 then gI e else _
  by_cases z : a = 20 ∧ b = 3
  · rw [if_pos z, if_pos z]
  · rw [if_neg z, if_neg z, if_neg z]
theorem gA_push (S : gv_S) (f : Nat) (row : List UInt64) (x : UInt64) : gv_uI (gv_uD (gA S f row) 23 row.length x) 20 5 (gI (row.length + 1)) = gA S f (row ++ [x]) := by
  unfold gv_uI gv_uD gA
  have hl : (row ++ [x]).length = row.length + 1 := by simp
  refine Prod.ext (funext fun a => funext fun b => ?_) (Prod.ext (funext fun a => funext fun b => ?_) rfl)
  · show (if a = 20 ∧ b = 5 then gI (row.length + 1) else if a = 20 ∧ b = 3 then gI f else if a = 20 ∧ b = 5 then gI row.length else S.1 a b) = if a = 20 ∧ b = 3 then gI f else if a = 20 ∧ b = 5 then gI (row ++ [x]).length else S.1 a b
    rw [hl]
    by_cases z : a = 20 ∧ b = 5
    · rw [if_pos z, if_neg (by omega), if_pos z]
    · rw [if_neg z, if_neg z, if_neg z]
  · show (if a = 23 ∧ b = row.length then x else if a = 23 ∧ b < row.length then row.getD b 0 else S.2.1 a b) = if a = 23 ∧ b < (row ++ [x]).length then (row ++ [x]).getD b 0 else S.2.1 a b
    rw [hl]
    by_cases z : a = 23 ∧ b = row.length
    · rw [if_pos z, if_pos (by omega), z.2]
      simp [List.getD_eq_getElem?_getD]
    · rw [if_neg z]
      by_cases w : a = 23 ∧ b < row.length
      · rw [if_pos w, if_pos (by omega)]
        simp only [List.getD_eq_getElem?_getD]
        rw [List.getElem?_append_left w.2]
      · rw [if_neg w, if_neg (by omega)]
/-- the arguments are vs, n of them -/
def ga (b : Nat) (h : gk_H) (S : gv_S) (vs : Nat → gp_V) (n : Nat) : Prop := n ≤ 8 ∧ S.1 20 2 = gI n ∧ ∀ k, k < n → (∃ i : Nat, S.2.2.1 21 k = some i ∧ gp_val b h i (vs k)) ∧ ∃ j : Nat, S.2.2.1 22 k = some j ∧ gp_cell b h j (sp_1 (vs k))
theorem ga.ext {b c s : Nat} {h h' : gk_H} {S : gv_S} {vs : Nat → gp_V} {n : Nat} (a : ga b h S vs n) (hk : gp_ext c s h h') : ga b h' S vs n := by
  obtain ⟨a1, a2, a3⟩ := a
  refine ⟨a1, a2, fun k hk2 => ?_⟩
  obtain ⟨⟨i, b1, b2⟩, j, b3, b4⟩ := a3 k hk2
  exact ⟨⟨i, b1, b2.ext hk⟩, j, b3, b4.ext hk⟩
theorem sp_1_ok {V : gp_V} (h : gp_okV V) : gp_okC (sp_1 V) := by
  unfold sp_1
  split
  · rename_i e
    exact h.2.2.2.1 0 (by omega)
  · exact gp_oke (by decide) (by decide)
section GPA
variable {b : Nat} {h : gk_H} {S : gv_S} {vs : Nat → gp_V} {n f : Nat} {row : List UInt64}
theorem a_blame (f e : Nat) (hf : f ≤ 8) : f_Ar_blame (some 20) (gI e) (gv_ov h (gA S f row)) = some ((), gv_ov h (gA S (bl f e) row)) := by
  unfold f_Ar_blame f_Ar_blame_b12 bl
  rw [gg_20_3, gA_fault, gI_0, ite_eq _ _ _ _ (by omega) (by decide), gs_20_3, gA_setF]
  by_cases z : f = 0
  · rw [if_pos z, if_pos z]
  · rw [if_neg z, if_neg z]
theorem a_raw (a : ga b h S vs n) (k : Nat) (hk : k < n) : ∃ i, f_Ar_raw (some 20) (gI k) (gv_ov h (gA S f row)) = some (some i, gv_ov h (gA S f row)) ∧ gp_val b h i (vs k) := by
  obtain ⟨a1, a2, a3⟩ := a
  obtain ⟨⟨i, b1, b2⟩, -⟩ := a3 k hk
  refine ⟨i, ?_, b2⟩
  unfold f_Ar_raw f_Ar_raw_b25
  rw [gI_0, ite_lt _ _ _ _ (by omega) (by decide), if_neg (by omega), gg_20_2, gA_2, a2, ite_le _ _ _ _ (by omega) (by omega), if_neg (by omega), gr_20_0, ga_21 (by omega), gA_refs, b1]
theorem a_single (a : ga b h S vs n) (k : Nat) (hk : k < n) : ∃ j, f_Ar_single (some 20) (gI k) (gv_ov h (gA S f row)) = some (some j, gv_ov h (gA S f row)) ∧ gp_cell b h j (sp_1 (vs k)) := by
  obtain ⟨a1, a2, a3⟩ := a
  obtain ⟨-, j, b1, b2⟩ := a3 k hk
  refine ⟨j, ?_, b2⟩
  unfold f_Ar_single f_Ar_single_b25
  rw [gI_0, ite_lt _ _ _ _ (by omega) (by decide), if_neg (by omega), gg_20_2, gA_2, a2, ite_le _ _ _ _ (by omega) (by omega), if_neg (by omega), gr_20_1, ga_22 (by omega), gA_refs, b1]
theorem a_sound (a : ga b h S vs n) (k : Nat) (hk : k < n) (hf : f ≤ 8) : ∃ j, f_Ar_sound (some 20) (gI k) (gv_ov h (gA S f row)) = some (some j, gv_ov h (gA S (bl f (sp_err (sp_1 (vs k)))) row)) ∧ gp_cell b h j (sp_1 (vs k)) := by
  obtain ⟨j, e1, e2⟩ := a_single (f := f) (row := row) a k hk
  refine ⟨j, ?_, e2⟩
  have h4 := e2.1.1
  unfold f_Ar_sound f_Ar_sound_b22 sp_err
  rw [gc_20, e1, gk_ca_some, fl_0 e2.2, gI_lit 4, ite_eq _ _ _ _ (by omega) (by decide), fl_1 e2.2, gc_20, a_blame f _ hf, gk_ca_some]
  by_cases z : (sp_1 (vs k)).1 = 4
  · rw [if_pos z, if_pos z]
  · rw [if_neg z, if_neg z]
    have : bl f 0 = f := by
      unfold bl
      split <;> omega
    rw [this]
theorem bl_0 (f : Nat) : bl f 0 = f := by
  unfold bl
  split <;> omega
theorem bl_le {f e : Nat} (h1 : f ≤ 8) (h2 : e ≤ 8) : bl f e ≤ 8 := by
  unfold bl
  split <;> omega
theorem sp_err_le {c : gp_C} (h : gp_okC c) : sp_err c ≤ 8 := by
  unfold sp_err
  split
  · rename_i e
    have := h.2.2.2.2.2.1 e
    omega
  · omega
theorem bl_bl (f e g : Nat) : bl (bl f e) g = bl f (bl e g) := by
  unfold bl
  by_cases z : f = 0
  · simp [z]
  · simp [z]
theorem sp_num_le {c : gp_C} (h : gp_okC c) : (sp_num c).1 ≤ 8 := by
  unfold sp_num
  split
  · exact Nat.zero_le _
  · split
    · split
      · exact Nat.zero_le _
      · show 3 ≤ 8; decide
    · split
      · exact Nat.zero_le _
      · exact sp_err_le h
theorem nl_is_dig {l : List Nat} (h : nl_is l = true) : l.countP nl_dig ≤ 15 := by
  unfold nl_is at h
  simp only [Bool.and_eq_true] at h
  obtain ⟨⟨⟨h1, h2⟩, h3⟩, h4⟩ := h
  have hs0 : ∀ t : List Nat, t.all nl_s = true → t.countP nl_dig = 0 := by
    intro t ht
    rw [List.countP_eq_zero]
    intro c hc z
    have := List.all_eq_true.mp ht c hc
    unfold nl_s at this
    have e : c = 32 := by simpa using this
    rw [e] at z
    exact absurd z (by decide)
  have hoff : ∀ (x : Nat) (t : List Nat), nl_dig x = false → (nl_off x t).countP nl_dig = t.countP nl_dig := by
    intro x t hx
    unfold nl_off
    split
    · rfl
    · split
      · rename_i e
        rw [List.countP_cons, e, hx]
        simp
      · rfl
  have e1 : l.countP nl_dig = (l.takeWhile nl_s).countP nl_dig + (l.dropWhile nl_s).countP nl_dig := by
    rw [← List.countP_append, List.takeWhile_append_dropWhile]
  have e2 : (l.takeWhile nl_s).countP nl_dig = 0 := hs0 _ (by
    rw [gp_allTake]
    have : ∀ t : List Nat, ((t.takeWhile nl_s).takeWhile nl_s).length = (t.takeWhile nl_s).length := by
      intro t
      induction t with
      | nil => rfl
      | cons c t ih =>
        rw [List.takeWhile_cons]
        by_cases z : nl_s c = true
        · rw [if_pos z, List.takeWhile_cons, if_pos z, List.length_cons, List.length_cons, ih]
        · rw [if_neg z]
          rfl
    exact this l)
  have e3 := hoff 45 (l.dropWhile nl_s) rfl
  have e4 : (nl_off 45 (l.dropWhile nl_s)).countP nl_dig = (nl_core l).countP nl_dig + ((nl_off 45 (l.dropWhile nl_s)).dropWhile nl_d).countP nl_dig := by
    unfold nl_core
    rw [← List.countP_append, List.takeWhile_append_dropWhile]
  have e5 := hoff 37 ((nl_off 45 (l.dropWhile nl_s)).dropWhile nl_d) rfl
  have e6 := hs0 _ h4
  have := Nat.le_of_ble_eq_true h2
  omega
theorem sp_num_n {c : gp_C} (h : gp_okC c) : fd_n (sp_num c).2 := by
  unfold sp_num
  split
  · exact h.2.1.n
  · split
    · split
      · rename_i e
        have hb := nl_bound (nl_is_dig e)
        exact (nl_x_ok _ _ _ _ hb.1 (by omega) (by omega)).2.2.1
      · exact fd_0_n
    · split
      · exact (fd_i2df _).n
      · exact fd_0_n
theorem a_amount (a : ga b h S vs n) (hs : gp_st h) (k : Nat) (hk : k < n) (hf : f ≤ 8) : f_Ar_amount (some 20) (gI k) (gv_ov h (gA S f row)) = some ((sp_num (sp_1 (vs k))).2, gv_ov h (gA S (bl f (sp_num (sp_1 (vs k))).1) row)) := by
  obtain ⟨j, e1, e2⟩ := a_sound (row := row) a k hk hf
  have h4 := e2.1.1
  have ok := e2.1
  obtain ⟨s, s1, s2⟩ := fl_3 e2.2
  have hse := sp_err_le ok
  unfold f_Ar_amount
  rw [gc_20, e1, gk_ca_some, fl_0 e2.2, gI_lit 1, gI_lit 2, gI_lit 3, ite_eq _ _ _ _ (by omega) (by decide), ite_eq _ _ _ _ (by omega) (by decide), ite_eq _ _ _ _ (by omega) (by decide)]
  unfold sp_num
  by_cases z1 : (sp_1 (vs k)).1 = 1
  · have ze : sp_err (sp_1 (vs k)) = 0 := if_neg (by omega)
    rw [if_pos z1, if_pos z1, fl_2 e2.2, ze]
  · rw [if_neg z1, if_neg z1]
    by_cases z2 : (sp_1 (vs k)).1 = 2
    · have ze : sp_err (sp_1 (vs k)) = 0 := if_neg (by omega)
      have hl := ok.2.2.2.2.2.2.2.2.1
      rw [if_pos z2, if_pos z2, s2, n_is hs s1 (by omega), gk_ca_some, ze, bl_0]
      by_cases z3 : nl_is (sp_1 (vs k)).2.2.2 = true
      · rw [if_pos z3, if_pos z3, if_neg (by decide), s2, (n_num hs s1 (by omega) (nl_is_dig z3)).1, gk_ca_some, bl_0]
      · rw [if_neg z3, if_neg z3, if_pos rfl, gc_20, a_blame f 3 hf, gk_ca_some]
    · rw [if_neg z2, if_neg z2]
      by_cases z3 : (sp_1 (vs k)).1 = 3
      · have ze : sp_err (sp_1 (vs k)) = 0 := if_neg (by omega)
        rw [if_pos z3, if_pos z3, fl_1 e2.2, ze]
      · rw [if_neg z3, if_neg z3]
end GPA
