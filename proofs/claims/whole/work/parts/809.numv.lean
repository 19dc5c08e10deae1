/-! THE PURE PART: a numeral's number (the class) -/
/-- not below 0, by its sign -/
def fd_p (a : UInt64) : Prop := fd_n a ∧ a.toNat < 2 ^ 63
theorem fd_p.c {a : UInt64} (h : fd_p a) : fd_c a = a := by
  unfold fd_c
  by_cases e : fd_k a = 0
  · rw [if_pos e]
    apply UInt64.toNat_inj.mp
    unfold fd_k FP.Core.dkey at e
    have h1 := h.2
    rw [if_neg (by omega)] at e
    show 0 = a.toNat
    omega
  · rw [if_neg e]
theorem fd_p.k {a : UInt64} (h : fd_p a) : 0 ≤ fd_k a := by
  have h1 := h.2
  unfold fd_k FP.Core.dkey
  rw [if_neg (by omega)]
  omega
theorem fd_ddiv {a b : UInt64} (ha : fd_n a) (hb : fd_f b) (hz : fd_k b ≠ 0) : fd_n (FP.ddiv a b) := by
  refine (FP.Core.notNaN_iff _).mp (FP.Core.ddiv_out ((FP.Core.notNaN_iff a).mpr ha) hb ?_)
  rw [FP.Core.zero_bits2]
  intro z
  apply hz
  have := b.toNat_lt
  unfold fd_k FP.Core.dkey
  split <;> omega
theorem fd_ddivp {a b : UInt64} (ha : fd_p a) (hb : fd_f b) (hp : fd_p b) (hz : fd_k b ≠ 0) : fd_p (FP.ddiv a b) := by
  have hn := fd_ddiv ha.1 hb hz
  refine ⟨hn, ?_⟩
  have s1 := FP.Core.sgn_bits hn
  have sa := FP.Core.sgn_bits ha.1
  have sb := FP.Core.sgn_bits hp.1
  have a2 := ha.2
  have b2 := hp.2
  rw [decide_eq_false (by omega)] at sa sb
  obtain ⟨t, d, r, hbv⟩ := hb
  have ht : t = false := by rw [hbv] at sb; exact sb
  have hd : d ≠ 0 := fun z => by
    have : FP.Core.DZero b := ⟨t, r, by rw [hbv, z]⟩
    rw [FP.Core.zero_bits2] at this
    apply hz
    unfold fd_k FP.Core.dkey
    rw [if_neg (by omega)]
    omega
  have e : FP.Core.sgn (FP.Core.val64 (FP.ddiv a b)) = false := by
    show FP.Core.sgn (FP.Core.val64 (FP.Core.ddiv a b)) = false
    rw [FP.Core.val64_ddiv, hbv]
    cases hav : FP.Core.val64 a with
    | nan => exact absurd hav ha.1
    | inf s =>
      rw [hav] at sa
      have : s = false := sa
      rw [this, ht]
      rfl
    | fin s c q =>
      rw [hav] at sa
      have : s = false := sa
      show FP.Core.sgn (if d = 0 then _ else FP.Core.roundRatio _ _ _ _ _) = false
      rw [if_neg hd, FP.Core.sgn_roundRatio, this, ht]
      rfl
  rw [e] at s1
  have := of_decide_eq_false s1.symm
  omega
theorem fd_l2dp (z : Int) (h1 : 0 ≤ z) (h2 : z < 9223372036854775808) : fd_p (FP.l2d (gJ z)) := by
  obtain ⟨c, q, e⟩ := FP.Core.l2d_shape (gJ z)
  have hz := gJ_toInt z (by omega) h2
  rw [hz, decide_eq_false (by omega)] at e
  have hf : fd_f (FP.l2d (gJ z)) := FP.Core.l2d_fin _
  refine ⟨hf.n, ?_⟩
  have := FP.Core.sign_bits (a := FP.l2d (gJ z)) (s := false) (Or.inl ⟨c, q, e⟩)
  have h3 : ¬ (2 ^ 63 ≤ (FP.l2d (gJ z)).toNat) := fun w => absurd (this.mpr w) (by decide)
  omega
theorem fd_l2df (x : Int64) : fd_f (FP.l2d x) := FP.Core.l2d_fin x
theorem fd_i2df (x : Int32) : fd_f (FP.i2d x) := by
  have : FP.i2d x = FP.l2d x.toInt64 := FP.Core.i2d_l2d x
  rw [this]
  exact fd_l2df _
/-- 0 less a number -/
theorem fd_neg {x : UInt64} (h : fd_n x) : fd_n (FP.dsub 0 x) ∧ fd_k (FP.dsub 0 x) = -fd_k x ∧ fd_c (FP.dsub 0 x) = FP.dsub 0 x := by
  have hx := x.toNat_lt
  have e1 : FP.dsub 0 x = FP.Core.dadd (FP.Core.dneg x) FP.Core.dconst0 := by
    show FP.Core.dsub 0 x = _
    rw [FP.Core.dsub_eq, FP.Core.dadd_comm]
    rfl
  have e2 : FP.Core.dneg x = FP.dneg x := (FP.dneg_core ((FP.Core.notNaN_iff x).mpr h)).symm
  have hn : fd_n (FP.dneg x) := by
    unfold fd_n
    rw [FP.val64_dneg]
    exact FP.Core.negate_ne_nan h
  have hb : (FP.dneg x).toNat = x.toNat ^^^ 2 ^ 63 := by
    unfold FP.dneg
    rw [UInt64.toNat_xor]
    rfl
  obtain ⟨h1, h2⟩ := FP.xor_top (a := x.toNat) (k := 63) (by omega)
  rw [e1, e2]
  by_cases hz : FP.dneg x = FP.Core.dzeroNeg
  · have hx0 : x.toNat = 0 := by
      rw [hz] at hb
      have hc : FP.Core.dzeroNeg.toNat = 2 ^ 63 := rfl
      rw [hc] at hb
      by_cases w : x.toNat < 2 ^ 63
      · rw [h1 w] at hb
        omega
      · rw [h2 (by omega)] at hb
        omega
    have hx0' : x = 0 := UInt64.toNat_inj.mp hx0
    rw [hz]
    have e3 : FP.Core.dadd FP.Core.dzeroNeg FP.Core.dconst0 = 0 := by decide +kernel
    rw [e3, hx0']
    exact ⟨fd_0_n, rfl, rfl⟩
  · rw [FP.Core.dadd_zero hn hz]
    have hk : fd_k (FP.dneg x) = -fd_k x := by
      unfold fd_k FP.Core.dkey
      rw [hb]
      by_cases w : x.toNat < 2 ^ 63
      · rw [h1 w, if_pos (by omega), if_neg (by omega)]
        omega
      · rw [h2 (by omega), if_neg (by omega), if_pos (by omega)]
        omega
    refine ⟨hn, hk, ?_⟩
    unfold fd_c
    by_cases w : fd_k (FP.dneg x) = 0
    · rw [if_pos w]
      apply UInt64.toNat_inj.mp
      show 0 = _
      unfold fd_k FP.Core.dkey at w
      by_cases w2 : 2 ^ 63 ≤ (FP.dneg x).toNat
      · rw [if_pos w2] at w
        exact absurd (UInt64.toNat_inj.mp (show (FP.dneg x).toNat = FP.Core.dzeroNeg.toNat by show _ = 2 ^ 63; omega)) hz
      · rw [if_neg w2] at w
        omega
    · rw [if_neg w]
/-- 10 to the n -/
def fd_t : Nat → UInt64
  | 0 => 0x3ff0000000000000
  | n + 1 => FP.dmul (fd_t n) 0x4024000000000000
theorem fd_t_bits : ∀ n : Fin 23, (fd_t n.val).toNat < 9218868437227405312 ∧ 0 < (fd_t n.val).toNat := by decide +kernel
theorem fd_pf {a : UInt64} (h : a.toNat < 9218868437227405312) : fd_f a ∧ fd_p a := by
  have hf : fd_f a := (FP.Core.fin_bits a).mpr (by omega)
  exact ⟨hf, hf.n, by omega⟩
theorem fd_tn (n : Nat) (h : n ≤ 22) : fd_f (fd_t n) ∧ fd_p (fd_t n) ∧ fd_k (fd_t n) ≠ 0 := by
  obtain ⟨h1, h2⟩ := fd_t_bits ⟨n, by omega⟩
  have h1' : (fd_t n).toNat < 9218868437227405312 := h1
  have h2' : 0 < (fd_t n).toNat := h2
  obtain ⟨q1, q2⟩ := fd_pf h1'
  refine ⟨q1, q2, ?_⟩
  unfold fd_k FP.Core.dkey
  rw [if_neg (by omega)]
  omega
theorem n_ten (e : Nat) (he : e ≤ 22) (h : gk_H) : ∀ (fu k : Nat), k ≤ e → e - k < fu → f_Am_tenTo_b5 fu (gJ (e : Int)) (fd_t k) (gI k) h = some (fd_t e, h) := by
  intro fu
  induction fu with
  | zero => intro k _ hf; omega
  | succ fu ih =>
    intro k hk hf
    rw [f_Am_tenTo_b5]
    dsimp only
    rw [gI_toJ k (by omega), jte_ge _ _ _ _ (by omega) (by omega) (by omega) (by omega)]
    by_cases w : (e : Int) ≤ (k : Int)
    · rw [if_pos w, show e = k from by omega]
      rfl
    · have hn : fd_n (FP.dmul (fd_t k) 0x4024000000000000) := (fd_tn (k + 1) (by omega)).1.n
      rw [if_neg w, gI_lit 22, ite_le _ _ _ _ (by decide) (by omega), if_neg (by omega), fd_dop hn, gk_let_eq, gI_1, gI_add]
      exact ih (k + 1) (by omega) (by omega)
theorem n_tenTo (e : Nat) (he : e ≤ 22) (h : gk_H) : f_Am_tenTo (gJ (e : Int)) h = some (fd_t e, h) := n_ten e he h gk_F 0 (Nat.zero_le _) (by unfold gk_F; omega)
/-- the digits, how many stand behind the dot, whether there was one -/
def nl_step (s : Int × Nat × Bool) (c : Nat) : Int × Nat × Bool :=
  if nl_dig c = true then (s.1 * 10 + ((c : Int) - 48), s.2.1 + (if (s.2.2 || nl_dot c) = true then 1 else 0), s.2.2 || nl_dot c) else (s.1, s.2.1, s.2.2 || nl_dot c)
def nl_fold (l : List Nat) : Int × Nat × Bool := l.foldl nl_step (0, 0, false)
def nl_x0 (w : Int) (b : Nat) : UInt64 := if b = 0 then FP.l2d (gJ w) else FP.ddiv (FP.l2d (gJ w)) (fd_t b)
def nl_x1 (x : UInt64) (p : Bool) : UInt64 := if p = true then FP.ddiv x 0x4059000000000000 else x
def nl_x2 (x : UInt64) (m : Bool) : UInt64 := if m = true then FP.dsub 0 x else x
def nl_val (l : List Nat) : UInt64 := nl_x2 (nl_x1 (nl_x0 (nl_fold l).1 (nl_fold l).2.1) (l.contains 37)) (l.contains 45)
theorem nl_digdot {c : Nat} : nl_dig c = true → c ≠ 46 := by
  intro h z
  rw [z] at h
  exact absurd h (by decide)
section GPM
variable {b i : Nat} {h : gk_H} {S : gv_S}
def n_end (i : Nat) (w : Int) (d : Nat) (H : gk_H) : Option (UInt64 × gk_H) := if gI d ≤ 0 then f_Le_numeral_b109 (some i) (FP.l2d (gJ w)) H else gk_ca (f_Am_tenTo (Int32.toInt64 (gI d)) H) fun x2 h2 => gk_dop (FP.ddiv (FP.l2d (gJ w)) x2) fun x3 => f_Le_numeral_b109 (some i) x3 h2
theorem n_fold (hs : gp_st h) : ∀ (t p : List Nat) (fu : Nat) (w : Int) (d : Nat) (e : Bool), gp_str b h i (p ++ t) → t.length < fu → d + t.length < 2147483648 → f_Le_numeral_b10 fu (some i) (gJ w) (gI d) (gB e) (gI p.length) (gv_ov h S) = n_end i (t.foldl nl_step (w, d, e)).1 (t.foldl nl_step (w, d, e)).2.1 (gv_ov h S) := by
  intro t
  induction t with
  | nil =>
    intro p fu w d e a hf hd
    obtain ⟨fu, rfl⟩ : ∃ f, fu = f + 1 := ⟨fu - 1, by omega⟩
    have ha := a
    obtain ⟨-, a2, a3, -, q, -, -, -, -, -, g3, -⟩ := a
    rw [List.append_nil] at ha g3
    rw [f_Le_numeral_b10]
    dsimp only
    rw [gp_cv a2.1 a3, s_len hs ha, gk_ca_some, ite_le _ _ _ _ (by omega) (by omega), if_pos (Nat.le_refl _)]
    rfl
  | cons c t ih =>
    intro p fu w d e a hf hd
    obtain ⟨fu, rfl⟩ : ∃ f, fu = f + 1 := ⟨fu - 1, by omega⟩
    have ha := a
    obtain ⟨-, a2, a3, -, q, -, -, -, -, -, g3, g4⟩ := a
    rw [f_Le_numeral_b10]
    dsimp only
    have hl : (p ++ c :: t).length = p.length + (t.length + 1) := by simp
    have hk : p.length < (p ++ c :: t).length := by omega
    have hc := (g4 p.length hk).2
    rw [gp_mid] at hc
    rw [List.length_cons] at hf hd
    rw [gp_cv a2.1 a3, s_len hs ha, gk_ca_some, ite_le _ _ _ _ (by omega) (by omega), if_neg (by omega), gp_cv a2.1 a3, s_charAt hs ha hk, gp_mid, gk_ca_some]
    have fin : ∀ (e' : Bool), e' = (e || nl_dot c) → f_Le_numeral_b44 (f_Le_numeral_b10 fu) (some i) (gJ w) (gI d) (gI p.length) (gI c) (gB e') (gv_ov h S) = n_end i ((c :: t).foldl nl_step (w, d, e)).1 ((c :: t).foldl nl_step (w, d, e)).2.1 (gv_ov h S) := by
      intro e' he'
      have hgo : ∀ (w' : Int) (d' : Nat), d' + t.length < 2147483648 → nl_step (w, d, e) c = (w', d', e') → f_Le_numeral_b86 (f_Le_numeral_b10 fu) (some i) (gJ w') (gI d') (gB e') (gI p.length) (gv_ov h S) = n_end i ((c :: t).foldl nl_step (w, d, e)).1 ((c :: t).foldl nl_step (w, d, e)).2.1 (gv_ov h S) := by
        intro w' d' hd' hst
        unfold f_Le_numeral_b86
        rw [gk_let_eq, gI_1, gI_add, List.foldl_cons, hst]
        have := ih (p ++ [c]) fu w' d' e' (by rw [← gp_app1]; exact ha) (by omega) hd'
        rw [List.length_append, List.length_singleton] at this
        exact this
      unfold f_Le_numeral_b44
      rw [gI_lit 48, gI_lit 57, ite_lt _ _ _ _ (by omega) (by decide), ite_lt _ _ _ _ (by decide) (by omega)]
      by_cases c1 : c < 48
      · rw [if_pos c1]
        refine hgo w d (by omega) ?_
        unfold nl_step
        rw [if_neg, he']
        unfold nl_dig
        simp only [Bool.and_eq_true]
        intro z
        have := Nat.le_of_ble_eq_true z.1
        omega
      · rw [if_neg c1]
        by_cases c2 : 57 < c
        · rw [if_pos c2]
          refine hgo w d (by omega) ?_
          unfold nl_step
          rw [if_neg, he']
          unfold nl_dig
          simp only [Bool.and_eq_true]
          intro z
          have := Nat.le_of_ble_eq_true z.2
          omega
        · rw [if_neg c2]
          have hdg : nl_dig c = true := by
            unfold nl_dig
            rw [Nat.ble_eq_true_of_le (by omega), Nat.ble_eq_true_of_le (by omega)]
            rfl
          unfold f_Le_numeral_b84
          rw [gI_sub _ _ (by omega), gI_toJ _ (by omega), gJ_of 10, gJ_mul, gJ_add, gk_let_eq, gk_let_eq, gk_let_eq, ite_B]
          have hc2 : ((c - 48 : Nat) : Int) = (c : Int) - 48 := by omega
          rw [hc2]
          cases he2 : e'
          · rw [if_neg (by decide), gI_0, gI_add]
            have := hgo (w * 10 + ((c : Int) - 48)) d (by omega) (by
              unfold nl_step
              rw [if_pos hdg, ← he', he2]
              rfl)
            rw [he2] at this
            exact this
          · rw [if_pos rfl, gI_1, gI_add]
            have := hgo (w * 10 + ((c : Int) - 48)) (d + 1) (by omega) (by
              unfold nl_step
              rw [if_pos hdg, ← he', he2]
              rfl)
            rw [he2] at this
            exact this
    unfold f_Le_numeral_b39
    rw [ite_B]
    cases e
    · rw [if_neg (by decide), gI_lit 46, ite_eq _ _ _ _ (by omega) (by decide)]
      by_cases c1 : c = 46
      · rw [if_pos c1]
        exact fin true (by rw [c1]; rfl)
      · rw [if_neg c1]
        exact fin false (by unfold nl_dot; simp [c1])
    · rw [if_pos rfl]
      exact fin true rfl
theorem nl_wpos : ∀ (t : List Nat) (w : Int) (d : Nat) (e : Bool), 0 ≤ w → 0 ≤ (t.foldl nl_step (w, d, e)).1 ∧ (t.foldl nl_step (w, d, e)).1 < (w + 1) * 10 ^ (t.countP nl_dig) ∧ (t.foldl nl_step (w, d, e)).2.1 ≤ d + t.countP nl_dig := by
  intro t
  induction t with
  | nil =>
    intro w d e hw
    exact ⟨hw, by show w < (w + 1) * 10 ^ 0; omega, Nat.le_refl _⟩
  | cons c t ih =>
    intro w d e hw
    rw [List.foldl_cons, List.countP_cons]
    unfold nl_step
    by_cases h1 : nl_dig c = true
    · have hr : 48 ≤ c ∧ c ≤ 57 := by
        unfold nl_dig at h1
        simp only [Bool.and_eq_true] at h1
        exact ⟨Nat.le_of_ble_eq_true h1.1, Nat.le_of_ble_eq_true h1.2⟩
      rw [if_pos h1, if_pos h1]
      obtain ⟨q1, q2, q3⟩ := ih (w * 10 + ((c : Int) - 48)) (d + (if (e || nl_dot c) = true then 1 else 0)) (e || nl_dot c) (by omega)
      refine ⟨q1, ?_, ?_⟩
      · refine Int.lt_of_lt_of_le q2 ?_
        rw [Int.pow_succ, ← Int.mul_assoc, Int.mul_right_comm]
        refine Int.mul_le_mul_of_nonneg_right (by omega) (Int.pow_nonneg (by decide))
      · have : (if (e || nl_dot c) = true then 1 else 0) ≤ 1 := by split <;> decide
        refine Nat.le_trans q3 ?_
        omega
    · rw [if_neg h1, if_neg h1]
      exact ih w d (e || nl_dot c) hw
theorem nl_x_ok (w : Int) (d : Nat) (p m : Bool) (h0 : 0 ≤ w) (h1 : w < 9223372036854775808) (hd : d ≤ 22) : fd_p (nl_x0 w d) ∧ fd_p (nl_x1 (nl_x0 w d) p) ∧ fd_n (nl_x2 (nl_x1 (nl_x0 w d) p) m) ∧ fd_c (nl_x2 (nl_x1 (nl_x0 w d) p) m) = nl_x2 (nl_x1 (nl_x0 w d) p) m := by
  have a1 : fd_p (nl_x0 w d) := by
    unfold nl_x0
    split
    · exact fd_l2dp w h0 h1
    · obtain ⟨t1, t2, t3⟩ := fd_tn d hd
      exact fd_ddivp (fd_l2dp w h0 h1) t1 t2 t3
  have a2 : fd_p (nl_x1 (nl_x0 w d) p) := by
    unfold nl_x1
    split
    · have hh : (0x4059000000000000 : UInt64).toNat < 9218868437227405312 := by decide
      obtain ⟨q1, q2⟩ := fd_pf hh
      exact fd_ddivp a1 q1 q2 (by decide)
    · exact a1
  refine ⟨a1, a2, ?_⟩
  unfold nl_x2
  split
  · exact ⟨(fd_neg a2.1).1, (fd_neg a2.1).2.2⟩
  · exact ⟨a2.1, a2.c⟩
theorem nl_bound {l : List Nat} (hd : l.countP nl_dig ≤ 15) : 0 ≤ (nl_fold l).1 ∧ (nl_fold l).1 < 1000000000000000 ∧ (nl_fold l).2.1 ≤ 15 := by
  obtain ⟨w1, w2, w3⟩ := nl_wpos l 0 0 false (Int.le_refl 0)
  have h10 : (10 : Int) ^ (l.countP nl_dig) ≤ 10 ^ 15 := by
    have := Nat.pow_le_pow_right (n := 10) (by decide) hd
    exact_mod_cast this
  refine ⟨w1, ?_, by unfold nl_fold; omega⟩
  unfold nl_fold
  have : (10 : Int) ^ 15 = 1000000000000000 := by decide
  omega
theorem n_num (hs : gp_st h) {l : List Nat} (a : gp_str b h i l) (hl : l.length ≤ 1000) (hd : l.countP nl_dig ≤ 15) : f_Le_numeral (some i) (gv_ov h S) = some (nl_val l, gv_ov h S) ∧ fd_n (nl_val l) ∧ fd_c (nl_val l) = nl_val l := by
  obtain ⟨w1, w2, w3⟩ := nl_bound hd
  obtain ⟨p1, p2, p3, p4⟩ := nl_x_ok (nl_fold l).1 (nl_fold l).2.1 (l.contains 37) (l.contains 45) w1 (by omega) (by omega)
  refine ⟨?_, p3, p4⟩
  have hf := n_fold (b := b) (i := i) (S := S) hs l [] gk_F 0 0 false a (by unfold gk_F; omega) (by omega)
  have ha := a
  obtain ⟨-, a2, a3, -⟩ := a
  have e128 : f_Le_numeral_b128 (some i) (nl_x1 (nl_x0 (nl_fold l).1 (nl_fold l).2.1) (l.contains 37)) (gv_ov h S) = some (nl_val l, gv_ov h S) := by
    unfold f_Le_numeral_b128 f_Le_numeral_b146 nl_val nl_x2
    obtain ⟨r, r1, r2⟩ := s_ix (S := S) hs ha 45 (by decide)
    rw [gp_cv a2.1 a3, gI_lit 45, r1, gk_ca_some]
    by_cases m : 45 ∈ l
    · rw [if_neg (fun z => (r2.mp z) m), if_pos (by simpa using m)]
      exact fd_dop (fd_neg p2.1).1 _
    · rw [if_pos (r2.mpr m), if_neg (by simpa using m)]
  have e109 : f_Le_numeral_b109 (some i) (nl_x0 (nl_fold l).1 (nl_fold l).2.1) (gv_ov h S) = some (nl_val l, gv_ov h S) := by
    unfold f_Le_numeral_b109
    obtain ⟨r, r1, r2⟩ := s_ix (S := S) hs ha 37 (by decide)
    rw [gp_cv a2.1 a3, gI_lit 37, r1, gk_ca_some]
    by_cases m : 37 ∈ l
    · have hx : nl_x1 (nl_x0 (nl_fold l).1 (nl_fold l).2.1) (l.contains 37) = FP.ddiv (nl_x0 (nl_fold l).1 (nl_fold l).2.1) 0x4059000000000000 := by
        unfold nl_x1
        rw [if_pos (by simpa using m)]
      rw [if_neg (fun z => (r2.mp z) m), fd_dop (by rw [← hx]; exact p2.1), ← hx]
      exact e128
    · have hx : nl_x1 (nl_x0 (nl_fold l).1 (nl_fold l).2.1) (l.contains 37) = nl_x0 (nl_fold l).1 (nl_fold l).2.1 := by
        unfold nl_x1
        rw [if_neg (by simpa using m)]
      rw [if_pos (r2.mpr m)]
      rw [hx] at e128
      exact e128
  have e10 : f_Le_numeral (some i) (gv_ov h S) = n_end i (nl_fold l).1 (nl_fold l).2.1 (gv_ov h S) := hf
  rw [e10]
  unfold n_end
  rw [gI_0, ite_le _ _ _ _ (by omega) (by decide)]
  by_cases z : (nl_fold l).2.1 ≤ 0
  · have hx : nl_x0 (nl_fold l).1 (nl_fold l).2.1 = FP.l2d (gJ (nl_fold l).1) := if_pos (by omega)
    rw [if_pos z, ← hx]
    exact e109
  · have hx : nl_x0 (nl_fold l).1 (nl_fold l).2.1 = FP.ddiv (FP.l2d (gJ (nl_fold l).1)) (fd_t (nl_fold l).2.1) := if_neg (by omega)
    rw [if_neg z, gI_toJ _ (by omega), n_tenTo _ (by omega), gk_ca_some, fd_dop (by rw [← hx]; exact p1.1), ← hx]
    exact e109
end GPM
