/-! THE PURE PART: longs; numerals (the class) -/
def gJ (z : Int) : Int64 := Int64.ofInt z
theorem gJ_of (n : Nat) : (OfNat.ofNat n : Int64) = gJ (n : Int) := by
  unfold gJ
  rw [Int64.ofInt_eq_ofNat]
  rfl
theorem gJ_add (a b : Int) : gJ a + gJ b = gJ (a + b) := (Int64.ofInt_add a b).symm
theorem gJ_sub (a b : Int) : gJ a - gJ b = gJ (a - b) := (Int64.ofInt_sub a b).symm
theorem gJ_mul (a b : Int) : gJ a * gJ b = gJ (a * b) := (Int64.ofInt_mul a b).symm
theorem gJ_toInt (a : Int) (h1 : -9223372036854775808 ≤ a) (h2 : a < 9223372036854775808) : (gJ a).toInt = a := Int64.toInt_ofInt_of_le h1 h2
theorem gJ_le (a b : Int) (h1 : -9223372036854775808 ≤ a) (h2 : a < 9223372036854775808) (h3 : -9223372036854775808 ≤ b) (h4 : b < 9223372036854775808) : (gJ a ≤ gJ b) = (a ≤ b) := by
  rw [Int64.le_iff_toInt_le, gJ_toInt a h1 h2, gJ_toInt b h3 h4]
theorem gJ_lt (a b : Int) (h1 : -9223372036854775808 ≤ a) (h2 : a < 9223372036854775808) (h3 : -9223372036854775808 ≤ b) (h4 : b < 9223372036854775808) : (gJ a < gJ b) = (a < b) := by
  rw [Int64.lt_iff_toInt_lt, gJ_toInt a h1 h2, gJ_toInt b h3 h4]
theorem gJ_eq (a b : Int) (h1 : -9223372036854775808 ≤ a) (h2 : a < 9223372036854775808) (h3 : -9223372036854775808 ≤ b) (h4 : b < 9223372036854775808) : (gJ a = gJ b) = (a = b) := by
  rw [← Int64.toInt_inj, gJ_toInt a h1 h2, gJ_toInt b h3 h4]
theorem gJ_self (x : Int64) : gJ x.toInt = x := Int64.ofInt_toInt x
theorem gI_toJ (n : Nat) (h : n < 2147483648) : Int32.toInt64 (gI n) = gJ (n : Int) := by
  apply Int64.toInt_inj.mp
  rw [Int32.toInt_toInt64, gI_toInt n h, gJ_toInt _ (by omega) (by omega)]
theorem gJ_toI (n : Nat) (h : n < 2147483648) : Int64.toInt32 (gJ (n : Int)) = gI n := by
  rw [← gI_toJ n h]
  exact Int32.toInt32_toInt64 _
section JITE
variable {β : Sort _} (x y : β) (a b : Int) (h1 : -9223372036854775808 ≤ a) (h2 : a < 9223372036854775808) (h3 : -9223372036854775808 ≤ b) (h4 : b < 9223372036854775808)
theorem jte_ge (h1 : -9223372036854775808 ≤ a) (h2 : a < 9223372036854775808) (h3 : -9223372036854775808 ≤ b) (h4 : b < 9223372036854775808) : (if 0 ≤ lg_cmp (gJ a) (gJ b) then x else y) = if b ≤ a then x else y := by
  have e : (0 ≤ lg_cmp (gJ a) (gJ b)) ↔ b ≤ a := by rw [lg_cmp_ge, gJ_le b a h3 h4 h1 h2]
  by_cases q : b ≤ a
  · rw [if_pos q, if_pos (e.mpr q)]
  · rw [if_neg q, if_neg (fun z => q (e.mp z))]
theorem jte_le (h1 : -9223372036854775808 ≤ a) (h2 : a < 9223372036854775808) (h3 : -9223372036854775808 ≤ b) (h4 : b < 9223372036854775808) : (if lg_cmp (gJ a) (gJ b) ≤ 0 then x else y) = if a ≤ b then x else y := by
  have e : (lg_cmp (gJ a) (gJ b) ≤ 0) ↔ a ≤ b := by rw [lg_cmp_le, gJ_le a b h1 h2 h3 h4]
  by_cases q : a ≤ b
  · rw [if_pos q, if_pos (e.mpr q)]
  · rw [if_neg q, if_neg (fun z => q (e.mp z))]
theorem jte_gt (h1 : -9223372036854775808 ≤ a) (h2 : a < 9223372036854775808) (h3 : -9223372036854775808 ≤ b) (h4 : b < 9223372036854775808) : (if 0 < lg_cmp (gJ a) (gJ b) then x else y) = if b < a then x else y := by
  have e : (0 < lg_cmp (gJ a) (gJ b)) ↔ b < a := by rw [lg_cmp_gt, gJ_lt b a h3 h4 h1 h2]
  by_cases q : b < a
  · rw [if_pos q, if_pos (e.mpr q)]
  · rw [if_neg q, if_neg (fun z => q (e.mp z))]
theorem jte_lt (h1 : -9223372036854775808 ≤ a) (h2 : a < 9223372036854775808) (h3 : -9223372036854775808 ≤ b) (h4 : b < 9223372036854775808) : (if lg_cmp (gJ a) (gJ b) < 0 then x else y) = if a < b then x else y := by
  have e : (lg_cmp (gJ a) (gJ b) < 0) ↔ a < b := by rw [lg_cmp_lt, gJ_lt a b h1 h2 h3 h4]
  by_cases q : a < b
  · rw [if_pos q, if_pos (e.mpr q)]
  · rw [if_neg q, if_neg (fun z => q (e.mp z))]
theorem jte_eq (h1 : -9223372036854775808 ≤ a) (h2 : a < 9223372036854775808) (h3 : -9223372036854775808 ≤ b) (h4 : b < 9223372036854775808) : (if lg_cmp (gJ a) (gJ b) = 0 then x else y) = if a = b then x else y := by
  have e : (lg_cmp (gJ a) (gJ b) = 0) ↔ a = b := by rw [lg_cmp_eq, gJ_eq a b h1 h2 h3 h4]
  by_cases q : a = b
  · rw [if_pos q, if_pos (e.mpr q)]
  · rw [if_neg q, if_neg (fun z => q (e.mp z))]
end JITE
/-- a truth as an int -/
def gB (e : Bool) : Int32 := if e = true then 1 else 0
theorem gB_t : gB true = 1 := rfl
theorem gB_f : gB false = 0 := rfl
theorem ite_B {β : Sort _} (e : Bool) (x y : β) : (if gB e = 0 then x else y) = if e = true then y else x := by
  cases e <;> rfl
theorem nbB {β : Type} (e : Bool) (x y : β) : (if narrow .boolean (.int (gB e)) = .int (gB e) then x else y) = x := by
  cases e <;> rfl
/-- what a numeral is -/
def nl_s (c : Nat) : Bool := c == 32
def nl_d (c : Nat) : Bool := c == 46 || (Nat.ble 48 c && Nat.ble c 57)
def nl_dot (c : Nat) : Bool := c == 46
def nl_dig (c : Nat) : Bool := Nat.ble 48 c && Nat.ble c 57
def nl_off (x : Nat) (t : List Nat) : List Nat := match t with
  | [] => []
  | c :: r => if c = x then r else c :: r
def nl_core (l : List Nat) : List Nat := (nl_off 45 (l.dropWhile nl_s)).takeWhile nl_d
def nl_is (l : List Nat) : Bool := Nat.ble 1 ((nl_core l).countP nl_dig) && Nat.ble ((nl_core l).countP nl_dig) 15 && Nat.ble ((nl_core l).countP nl_dot) 1 && (nl_off 37 ((nl_off 45 (l.dropWhile nl_s)).dropWhile nl_d)).all nl_s
theorem gp_mid (p t : List Nat) (c : Nat) : (p ++ c :: t).getD p.length 0 = c := by
  simp [List.getD_eq_getElem?_getD]
theorem gp_app1 (p t : List Nat) (c : Nat) : p ++ c :: t = (p ++ [c]) ++ t := by simp
section GPN
variable {b i : Nat} {h : gk_H} {S : gv_S}
theorem n_sp (hs : gp_st h) : ∀ (t p : List Nat) (fu : Nat), gp_str b h i (p ++ t) → t.length < fu → f_Le_behindSpaces_b2 fu (some i) (gI p.length) (gv_ov h S) = some (gI (p.length + (t.takeWhile nl_s).length), gv_ov h S) := by
  intro t
  induction t with
  | nil =>
    intro p fu a hf
    obtain ⟨fu, rfl⟩ : ∃ f, fu = f + 1 := ⟨fu - 1, by omega⟩
    have ha := a
    obtain ⟨-, a2, a3, -, q, -, -, -, -, -, g3, -⟩ := a
    rw [f_Le_behindSpaces_b2]
    dsimp only
    rw [gp_cv a2.1 a3, s_len hs ha, gk_ca_some, List.append_nil, ite_le _ _ _ _ (by rw [List.append_nil] at g3; omega) (by rw [List.append_nil] at g3; omega), if_pos (Nat.le_refl _)]
    rfl
  | cons c t ih =>
    intro p fu a hf
    obtain ⟨fu, rfl⟩ : ∃ f, fu = f + 1 := ⟨fu - 1, by omega⟩
    have ha := a
    obtain ⟨-, a2, a3, -, q, -, -, -, -, -, g3, g4⟩ := a
    rw [f_Le_behindSpaces_b2]
    dsimp only
    have hl : (p ++ c :: t).length = p.length + (t.length + 1) := by simp
    have hk : p.length < (p ++ c :: t).length := by omega
    have hc := (g4 p.length hk).2
    rw [gp_mid] at hc
    rw [gp_cv a2.1 a3, s_len hs ha, gk_ca_some, ite_le _ _ _ _ (by omega) (by omega), if_neg (by omega), gp_cv a2.1 a3, s_charAt hs ha hk, gp_mid, gk_ca_some, gI_lit 32, ite_eq _ _ _ _ (by omega) (by decide)]
    by_cases e : c = 32
    · rw [if_pos e, gk_let_eq, gI_1, gI_add]
      have := ih (p ++ [c]) fu (by rw [← gp_app1]; exact ha) (by rw [List.length_cons] at hf; omega)
      rw [List.length_append, List.length_singleton] at this
      rw [this, List.takeWhile_cons, if_pos (by rw [e]; rfl), List.length_cons]
      congr 3
      omega
    · rw [if_neg e, List.takeWhile_cons, if_neg (by unfold nl_s; simp [e])]
      rfl
theorem n_isd (c : Nat) (hc : c < 128) (h : gk_H) : f_Le_isOfDigits (gI c) h = some (if nl_d c = true then 1 else 0, h) := by
  unfold f_Le_isOfDigits f_Le_isOfDigits_b18 f_Le_isOfDigits_b22 f_Le_isOfDigits_b23
  rw [gI_lit 46, gI_lit 48, gI_lit 57, ite_eq _ _ _ _ (by omega) (by decide), ite_lt _ _ _ _ (by omega) (by decide), ite_lt _ _ _ _ (by decide) (by omega), nb0, nb1]
  have hd : nl_d c = true ↔ c = 46 ∨ 48 ≤ c ∧ c ≤ 57 := by
    unfold nl_d
    simp [Bool.or_eq_true, Bool.and_eq_true]
  by_cases e1 : c = 46
  · rw [if_pos e1, if_pos (hd.mpr (Or.inl e1))]
  · rw [if_neg e1]
    by_cases e2 : c < 48
    · rw [if_pos e2, if_neg (fun z => by have := hd.mp z; omega)]
    · rw [if_neg e2]
      by_cases e3 : 57 < c
      · rw [if_pos e3, if_neg (fun z => by have := hd.mp z; omega)]
      · rw [if_neg e3, if_pos (hd.mpr (by omega))]
theorem n_run (hs : gp_st h) : ∀ (t p : List Nat) (fu d e : Nat), gp_str b h i (p ++ t) → t.length < fu → d + t.length < 2147483648 → e + t.length < 2147483648 → f_Le_isNumeral_b31 fu (some i) (gI p.length) (gI d) (gI e) (gv_ov h S) = f_Le_isNumeral_b75 (some i) (gI (p.length + (t.takeWhile nl_d).length)) (gI (d + (t.takeWhile nl_d).countP nl_dig)) (gI (e + (t.takeWhile nl_d).countP nl_dot)) (gv_ov h S) := by
  intro t
  induction t with
  | nil =>
    intro p fu d e a hf _ _
    obtain ⟨fu, rfl⟩ : ∃ f, fu = f + 1 := ⟨fu - 1, by omega⟩
    have ha := a
    obtain ⟨-, a2, a3, -, q, -, -, -, -, -, g3, -⟩ := a
    rw [f_Le_isNumeral_b31]
    dsimp only
    rw [gp_cv a2.1 a3, s_len hs ha, gk_ca_some, List.append_nil, ite_le _ _ _ _ (by rw [List.append_nil] at g3; omega) (by rw [List.append_nil] at g3; omega), if_pos (Nat.le_refl _)]
    rfl
  | cons c t ih =>
    intro p fu d e a hf hd he
    obtain ⟨fu, rfl⟩ : ∃ f, fu = f + 1 := ⟨fu - 1, by omega⟩
    have ha := a
    obtain ⟨-, a2, a3, -, q, -, -, -, -, -, g3, g4⟩ := a
    rw [f_Le_isNumeral_b31]
    dsimp only
    have hl : (p ++ c :: t).length = p.length + (t.length + 1) := by simp
    have hk : p.length < (p ++ c :: t).length := by omega
    have hc := (g4 p.length hk).2
    rw [gp_mid] at hc
    rw [List.length_cons] at hf hd he
    rw [gp_cv a2.1 a3, s_len hs ha, gk_ca_some, ite_le _ _ _ _ (by omega) (by omega), if_neg (by omega), gp_cv a2.1 a3, s_charAt hs ha hk, gp_mid, gk_ca_some, n_isd c hc, gk_ca_some, List.takeWhile_cons]
    by_cases e1 : nl_d c = true
    · rw [if_pos e1, if_pos e1, if_neg (by decide), gp_cv a2.1 a3, s_charAt hs ha hk, gp_mid, gk_ca_some, gI_lit 46, ite_eq _ _ _ _ (by omega) (by decide)]
      unfold f_Le_isNumeral_b69
      by_cases e2 : c = 46
      · rw [if_pos e2, gk_let_eq, gI_1, gI_add, gk_let_eq, gI_add]
        have := ih (p ++ [c]) fu d (e + 1) (by rw [← gp_app1]; exact ha) (by omega) (by omega) (by omega)
        rw [List.length_append, List.length_singleton] at this
        rw [this, List.length_cons, List.countP_cons, List.countP_cons, e2]
        have z1 : nl_dig 46 = false := rfl
        have z2 : nl_dot 46 = true := rfl
        rw [z1, z2, if_neg (by decide), if_pos rfl]
        congr 2 <;> omega
      · rw [if_neg e2, gk_let_eq, gI_1, gI_add, gk_let_eq, gI_add]
        have := ih (p ++ [c]) fu (d + 1) e (by rw [← gp_app1]; exact ha) (by omega) (by omega) (by omega)
        rw [List.length_append, List.length_singleton] at this
        rw [this, List.length_cons, List.countP_cons, List.countP_cons]
        have z1 : nl_dig c = true := by
          unfold nl_d at e1
          unfold nl_dig
          simpa [e2] using e1
        have z2 : nl_dot c = false := by
          unfold nl_dot
          simp [e2]
        rw [z1, z2, if_pos rfl, if_neg (by decide)]
        congr 2 <;> omega
    · rw [if_neg e1, if_neg e1, if_pos rfl]
      rfl
theorem gp_offlen (x : Nat) (t : List Nat) : (nl_off x t).length ≤ t.length := by
  unfold nl_off
  split
  · exact Nat.le_refl _
  · split
    · rw [List.length_cons]
      omega
    · exact Nat.le_refl _
theorem gp_takelen (f : Nat → Bool) (t : List Nat) : (t.takeWhile f).length + (t.dropWhile f).length = t.length := by
  have := congrArg List.length (List.takeWhile_append_dropWhile (p := f) (l := t))
  rw [List.length_append] at this
  exact this
theorem gp_allTake (f : Nat → Bool) (t : List Nat) : t.all f = true ↔ (t.takeWhile f).length = t.length := by
  induction t with
  | nil => exact ⟨fun _ => rfl, fun _ => rfl⟩
  | cons c t ih =>
    rw [List.all_cons, Bool.and_eq_true, List.takeWhile_cons]
    by_cases e : f c = true
    · rw [if_pos e, List.length_cons, List.length_cons, ih]
      exact ⟨fun z => by have := z.2; omega, fun z => ⟨e, by omega⟩⟩
    · rw [if_neg e, List.length_cons, List.length_nil]
      constructor
      · intro z
        exact absurd z.1 e
      · intro z
        omega
theorem n_is (hs : gp_st h) {l : List Nat} (a : gp_str b h i l) (hl : l.length ≤ 1000) : f_Le_isNumeral (some i) (gv_ov h S) = some (if nl_is l = true then 1 else 0, gv_ov h S) := by
  have ha := a
  obtain ⟨-, a2, a3, -, q, -, -, -, -, -, g3, g4⟩ := a
  have ch : ∀ (p t : List Nat) (c : Nat), l = p ++ c :: t → c < 128 ∧ p.length < l.length ∧ f_St_charAt (some i) (gI p.length) (gv_ov h S) = some (gI c, gv_ov h S) := fun p t c e => by
    have hk : p.length < l.length := by rw [e]; simp
    have h1 := (g4 p.length hk).2
    have h2 := s_charAt (S := S) hs ha hk
    rw [show l.getD p.length 0 = c from by rw [e, gp_mid]] at h1 h2
    exact ⟨h1, hk, h2⟩
  -- the end: behind the percent
  have b96 : ∀ (p t : List Nat) (d e : Nat), l = p ++ t → d ≤ 1000 → e ≤ 1000 → f_Le_isNumeral_b96 (some i) (gI p.length) (gI d) (gI e) (gv_ov h S) = some (if (Nat.ble 1 d && Nat.ble d 15 && Nat.ble e 1 && t.all nl_s) = true then 1 else 0, gv_ov h S) := by
    intro p t d e hp hd he
    unfold f_Le_isNumeral_b96 f_Le_isNumeral_b128 f_Le_isNumeral_b129 f_Le_behindSpaces
    have hsp := n_sp (b := b) (i := i) (S := S) hs t p gk_F (by rw [← hp]; exact ha) (by rw [hp, List.length_append] at hl; unfold gk_F; omega)
    have hlen : l.length = p.length + t.length := by rw [hp, List.length_append]
    have htk := gp_takelen nl_s t
    rw [hsp, gk_ca_some, gp_cv a2.1 a3, s_len hs ha, gk_ca_some, gI_1, ite_lt _ _ _ _ (by omega) (by decide), gI_lit 15, ite_lt _ _ _ _ (by decide) (by omega), ite_lt _ _ _ _ (by decide) (by omega), ite_eq _ _ _ _ (by omega) (by omega), ← gI_1, nb0, nb1]
    have hall : t.all nl_s = true ↔ p.length + (t.takeWhile nl_s).length = l.length := by
      rw [hlen, gp_allTake]
      omega
    by_cases e1 : d < 1
    · rw [if_pos e1, if_neg]
      intro z
      simp only [Bool.and_eq_true] at z
      have := Nat.le_of_ble_eq_true z.1.1.1
      omega
    · rw [if_neg e1]
      by_cases e2 : 15 < d
      · rw [if_pos e2, if_neg]
        intro z
        simp only [Bool.and_eq_true] at z
        have := Nat.le_of_ble_eq_true z.1.1.2
        omega
      · rw [if_neg e2]
        by_cases e3 : 1 < e
        · rw [if_pos e3, if_neg]
          intro z
          simp only [Bool.and_eq_true] at z
          have := Nat.le_of_ble_eq_true z.1.2
          omega
        · rw [if_neg e3]
          have y1 : Nat.ble 1 d = true := Nat.ble_eq_true_of_le (by omega)
          have y2 : Nat.ble d 15 = true := Nat.ble_eq_true_of_le (by omega)
          have y3 : Nat.ble e 1 = true := Nat.ble_eq_true_of_le (by omega)
          rw [y1, y2, y3]
          by_cases e4 : p.length + (t.takeWhile nl_s).length = l.length
          · rw [if_pos e4, hall.mpr e4]
            rfl
          · rw [if_neg e4, if_neg]
            intro z
            exact e4 (hall.mp (by simpa using z))
  -- the percent
  have b75 : ∀ (p t : List Nat) (d e : Nat), l = p ++ t → d ≤ 1000 → e ≤ 1000 → f_Le_isNumeral_b75 (some i) (gI p.length) (gI d) (gI e) (gv_ov h S) = some (if (Nat.ble 1 d && Nat.ble d 15 && Nat.ble e 1 && (nl_off 37 t).all nl_s) = true then 1 else 0, gv_ov h S) := by
    intro p t d e hp hd he
    unfold f_Le_isNumeral_b75
    have hlen : l.length = p.length + t.length := by rw [hp, List.length_append]
    rw [gp_cv a2.1 a3, s_len hs ha, gk_ca_some, ite_le _ _ _ _ (by omega) (by omega)]
    cases t with
    | nil =>
      rw [if_pos (by rw [hlen]; exact Nat.le_refl _)]
      exact b96 p [] d e hp hd he
    | cons c t =>
      obtain ⟨c1, c2, c3⟩ := ch p t c hp
      rw [if_neg (by omega), gp_cv a2.1 a3, c3, gk_ca_some, gI_lit 37, ite_eq _ _ _ _ (by omega) (by decide)]
      unfold nl_off
      by_cases e1 : c = 37
      · rw [if_pos e1, gk_let_eq, gI_1, gI_add]
        have := b96 (p ++ [c]) t d e (by rw [← gp_app1]; exact hp) hd he
        rw [List.length_append, List.length_singleton] at this
        rw [this]
        simp only [e1, if_true]
        rfl
      · rw [if_neg e1, b96 p (c :: t) d e hp hd he]
        simp only [e1, if_false]
  -- the run
  have b27 : ∀ (p t : List Nat), l = p ++ t → f_Le_isNumeral_b27 (some i) (gI p.length) (gv_ov h S) = some (if (Nat.ble 1 ((t.takeWhile nl_d).countP nl_dig) && Nat.ble ((t.takeWhile nl_d).countP nl_dig) 15 && Nat.ble ((t.takeWhile nl_d).countP nl_dot) 1 && (nl_off 37 (t.dropWhile nl_d)).all nl_s) = true then 1 else 0, gv_ov h S) := by
    intro p t hp
    unfold f_Le_isNumeral_b27
    have hlen : l.length = p.length + t.length := by rw [hp, List.length_append]
    have := n_run (b := b) (i := i) (S := S) hs t p gk_F 0 0 (by rw [← hp]; exact ha) (by unfold gk_F; omega) (by omega) (by omega)
    rw [gI_0, this, Nat.zero_add, Nat.zero_add]
    have htk := gp_takelen nl_d t
    have k1 : (t.takeWhile nl_d).countP nl_dig ≤ (t.takeWhile nl_d).length := List.countP_le_length
    have k2 : (t.takeWhile nl_d).countP nl_dot ≤ (t.takeWhile nl_d).length := List.countP_le_length
    have h75 := b75 (p ++ t.takeWhile nl_d) (t.dropWhile nl_d) ((t.takeWhile nl_d).countP nl_dig) ((t.takeWhile nl_d).countP nl_dot) (by rw [List.append_assoc, List.takeWhile_append_dropWhile]; exact hp) (by omega) (by omega)
    rw [List.length_append] at h75
    exact h75
  unfold f_Le_isNumeral f_Le_behindSpaces
  have hsp := n_sp (b := b) (i := i) (S := S) hs l [] gk_F ha (by unfold gk_F; omega)
  have hsp' : f_Le_behindSpaces_b2 gk_F (some i) 0 (gv_ov h S) = some (gI (0 + (l.takeWhile nl_s).length), gv_ov h S) := hsp
  have hdec : l = l.takeWhile nl_s ++ l.dropWhile nl_s := List.takeWhile_append_dropWhile.symm
  have hlen := gp_takelen nl_s l
  rw [hsp', gk_ca_some, Nat.zero_add, gp_cv a2.1 a3, s_len hs ha, gk_ca_some, ite_le _ _ _ _ (by omega) (by omega)]
  unfold nl_is nl_core
  generalize hP : l.takeWhile nl_s = P at hdec hlen ⊢
  generalize hT : l.dropWhile nl_s = T at hdec hlen ⊢
  cases T with
  | nil =>
    rw [List.length_nil] at hlen
    rw [if_pos (by omega)]
    exact b27 P [] hdec
  | cons c t =>
    obtain ⟨c1, c2, c3⟩ := ch P t c hdec
    rw [if_neg (by omega), gp_cv a2.1 a3, c3, gk_ca_some, gI_lit 45, ite_eq _ _ _ _ (by omega) (by decide)]
    by_cases e1 : c = 45
    · rw [if_pos e1, gk_let_eq, gI_1, gI_add]
      have := b27 (P ++ [c]) t (by rw [← gp_app1]; exact hdec)
      rw [List.length_append, List.length_singleton] at this
      rw [this]
      have ho : nl_off 45 (c :: t) = t := by unfold nl_off; simp [e1]
      rw [ho]
      rfl
    · have ho : nl_off 45 (c :: t) = c :: t := by unfold nl_off; simp [e1]
      rw [if_neg e1, b27 P (c :: t) hdec, ho]
end GPN
