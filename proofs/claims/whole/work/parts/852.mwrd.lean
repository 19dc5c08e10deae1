/-! THE PURE PART: the reference's words -/
def mWd (w a b : Nat) : Prop := (a = 40 ∧ b = w) ∨ (a = 41 ∧ 256 * w ≤ b ∧ b < 256 * w + 256)
def mW (S : gv_S) (w : Nat) (l : List Nat) : Prop := l.length ≤ 255 ∧ (∀ c ∈ l, c < 128) ∧ S.1 40 w = gI l.length ∧ ∀ k, k < l.length → S.1 41 (256 * w + k) = gI (l.getD k 0)
/-- digits, the first first -/
def dt (v : Nat) : Nat → List Nat
  | 0 => []
  | k + 1 => (48 + v / 10 ^ k % 10) :: dt v k
theorem wq_app : ∀ (k n : Nat), wq (k + 1) n = wq k n ++ [48 + n / 10 ^ k % 10]
  | 0, n => by
    show [48 + n % 10] = [48 + n / 1 % 10]
    rw [Nat.div_one]
  | k + 1, n => by
    show (48 + n % 10) :: wq (k + 1) (n / 10) = (48 + n % 10) :: (wq k (n / 10) ++ [48 + n / 10 ^ (k + 1) % 10])
    rw [wq_app k (n / 10), Nat.div_div_eq_div_mul, show 10 * 10 ^ k = 10 ^ (k + 1) from by rw [Nat.pow_succ, Nat.mul_comm]]
theorem dt_wq (v : Nat) : ∀ k, dt v k = (wq k v).reverse
  | 0 => rfl
  | k + 1 => by
    rw [wq_app, List.reverse_append, dt, dt_wq v k]
    rfl
theorem dt_len (v k : Nat) : (dt v k).length = k := by
  rw [dt_wq, List.length_reverse, wq_len]
theorem dt_dig (v k : Nat) : ∀ c ∈ dt v k, 48 ≤ c ∧ c ≤ 57 := fun c hc => by
  rw [dt_wq] at hc
  exact wq_dig k v c (List.mem_reverse.mp hc)
theorem wb_wq : ∀ (e n : Nat), (10 ^ e ≤ n ∨ e = 0) → n < 10 ^ (e + 1) → ∀ k, e + 1 ≤ k → wb k n = wq (e + 1) n
  | 0, n, _, h, k, hk => by
    obtain ⟨k, rfl⟩ : ∃ j, k = j + 1 := ⟨k - 1, by omega⟩
    show (48 + n % 10) :: (if n < 10 then [] else wb k (n / 10)) = [48 + n % 10]
    rw [if_pos (by omega)]
  | e + 1, n, h1, h, k, hk => by
    obtain ⟨k, rfl⟩ : ∃ j, k = j + 1 := ⟨k - 1, by omega⟩
    have e1 : 10 ^ (e + 1) = 10 ^ e * 10 := Nat.pow_succ 10 e
    have e2 : 10 ^ (e + 1 + 1) = 10 ^ (e + 1) * 10 := Nat.pow_succ 10 (e + 1)
    have hp : 0 < 10 ^ e := Nat.pow_pos (by decide)
    show (48 + n % 10) :: (if n < 10 then [] else wb k (n / 10)) = (48 + n % 10) :: wq (e + 1) (n / 10)
    rw [if_neg (by omega), wb_wq e (n / 10) (by omega) (by omega) k (by omega)]
theorem wd_dt {e n : Nat} (h1 : 10 ^ e ≤ n ∨ e = 0) (h : n < 10 ^ (e + 1)) (he : e < 19) : wd n = dt n (e + 1) := by
  unfold wd
  rw [wb_wq e n h1 h 19 (by omega), dt_wq]
section MWR
variable {h : gk_H} {S : gv_S} {w : Nat} {l : List Nat} {V : gp_V} {f : Nat}
theorem mW.X {P : Nat → Nat → Prop} {S' : gv_S} (a : mW S w l) (q : mX P S S') (hp : ∀ x y, P x y → ¬ mWd w x y) : mW S' w l := by
  obtain ⟨a1, a2, a3, a4⟩ := a
  exact ⟨a1, a2, by rw [q.i (fun z => hp _ _ z (Or.inl ⟨rfl, rfl⟩))]; exact a3, fun k hk => by rw [q.i (fun z => hp _ _ z (Or.inr ⟨rfl, by omega, by omega⟩))]; exact a4 k hk⟩
theorem m_put (a : mW S w l) (hw : w < 9) (c : Nat) (hc : c < 128) (hl : l.length < 255) : ∃ S', f_M_putLetter (some 30) (gI w) (gI c) (gv_ov h S) = some ((), gv_ov h S') ∧ mX (mWd w) S S' ∧ mW S' w (l ++ [c]) := by
  obtain ⟨a1, a2, a3, a4⟩ := a
  have eb : Int8.toInt32 (Int32.toInt8 (gI c)) = gI c := gI_bb hc
  unfold f_M_putLetter
  rw [gr_30_15, gr_30_14, ga_40 hw, a3, gI_lit 256, gI_mul, gI_add, eb, gt_41 (by omega), gI_bb hc, gr_30_14, ga_40 hw, gu_I1 _ _ _ _ _ _ (by omega), a3, show gI l.length + (1 : Int32) = gI (l.length + 1) from gI_add _ 1, gt_40 hw]
  refine ⟨_, rfl, (mX.I _ (Or.inr ⟨rfl, by omega, by omega⟩)).trans (mX.I _ (Or.inl ⟨rfl, rfl⟩)), ?_, ?_, ?_, fun k hk => ?_⟩
  · rw [List.length_append, List.length_singleton]
    omega
  · intro x hx
    rcases List.mem_append.mp hx with q | q
    · exact a2 x q
    · rw [List.mem_singleton.mp q]
      exact hc
  · rw [List.length_append, List.length_singleton]
    exact gu_I2 _ _ _ _
  · rw [List.length_append, List.length_singleton] at hk
    rw [gu_I1 _ _ _ _ _ _ (by omega)]
    by_cases q : k = l.length
    · rw [q, gu_I2, List.getD_eq_getElem?_getD, List.getElem?_append_right (Nat.le_refl _), Nat.sub_self]
      rfl
    · rw [gu_I1 _ _ _ _ _ _ (by omega), List.getD_eq_getElem?_getD, List.getElem?_append_left (by omega), ← List.getD_eq_getElem?_getD]
      exact a4 k (by omega)
def stq : Nat → Nat
  | 0 => 0
  | k + 1 => 10 ^ k
theorem stq_10 : ∀ k, stq (k + 1) / 10 = stq k
  | 0 => rfl
  | k + 1 => by
    show 10 ^ (k + 1) / 10 = 10 ^ k
    rw [Nat.pow_succ, Nat.mul_div_cancel _ (by decide)]
theorem p18 {k : Nat} (h : k ≤ 18) : 10 ^ k ≤ 1000000000000000000 := Nat.le_trans (Nat.pow_le_pow_right (by decide) h) (by decide)
theorem md_49 (v : Nat) (hv : v < 9223372036854775808) (hw : w < 9) : ∀ (k fu : Nat) (S : gv_S) (l : List Nat), k ≤ 19 → k < fu → mW S w l → l.length + k ≤ 255 → ∃ S', f_M_digits_b49 fu (some 30) (gI w) (gJ (v : Int)) (gJ (stq k : Int)) (gv_ov h S) = some ((), gv_ov h S') ∧ mX (mWd w) S S' ∧ mW S' w (l ++ dt v k) := by
  intro k
  induction k with
  | zero =>
    intro fu S l hk hf a hl
    obtain ⟨fu, rfl⟩ : ∃ f, fu = f + 1 := ⟨fu - 1, by omega⟩
    rw [f_M_digits_b49]
    dsimp only
    rw [if_pos (by decide), show dt v 0 = [] from rfl, List.append_nil]
    exact ⟨S, rfl, mX.refl _ _, a⟩
  | succ k ih =>
    intro fu S l hk hf a hl
    obtain ⟨fu, rfl⟩ : ∃ f, fu = f + 1 := ⟨fu - 1, by omega⟩
    have hp : 0 < 10 ^ k := Nat.pow_pos (by decide)
    have hp2 := p18 (show k ≤ 18 by omega)
    have es : (stq (k + 1) : Int) = ((10 ^ k : Nat) : Int) := rfl
    have hq : v / 10 ^ k ≤ v := Nat.div_le_self _ _
    have zpos : ∀ {β : Type} (x y : β), (if lg_cmp (gJ (stq (k + 1) : Int)) (0 : Int64) ≤ 0 then x else y) = y := fun x y => by
      rw [show (0 : Int64) = gJ 0 from gJl_0, jte_le _ _ _ _ (by omega) (by omega) (by decide) (by decide), if_neg (by omega)]
    have zne : ¬ (gJ (stq (k + 1) : Int) = (0 : Int64)) := fun q => by
      rw [show (0 : Int64) = gJ 0 from gJl_0, gJ_eq _ _ (by omega) (by omega) (by decide) (by decide)] at q
      omega
    have ed : gJ (v : Int) / gJ (stq (k + 1) : Int) = gJ ((v / 10 ^ k : Nat) : Int) := by
      rw [gJ_div _ _ (by omega) (by omega) (by omega) (by omega), es, Int.natCast_ediv]
    have e10 : gJ (stq (k + 1) : Int) / (10 : Int64) = gJ (stq k : Int) := by
      rw [gJl_10, gJ_div _ _ (by omega) (by omega) (by decide) (by decide), ← stq_10 k, Int.natCast_ediv]
      rfl
    have edig : Int64.toInt32 ((48 : Int64) + (gJ ((v / 10 ^ k : Nat) : Int) - gJ ((v / 10 ^ k : Nat) : Int) / (10 : Int64) * (10 : Int64))) = gI (48 + v / 10 ^ k % 10) := by
      generalize v / 10 ^ k = q at hq ⊢
      rw [gJl_10, gJ_div _ _ (by omega) (by omega) (by decide) (by decide), gJ_mul, gJ_sub, gJl_48, gJ_add, gJ_nI (by omega) (by omega), show (48 + ((q : Int) - (q : Int) / 10 * 10)).toNat = 48 + q % 10 by omega]
    obtain ⟨S1, e1, e2, e3⟩ := m_put (h := h) a hw (48 + v / 10 ^ k % 10) (by omega) (by omega)
    obtain ⟨S2, q1, q2, q3⟩ := ih fu S1 (l ++ [48 + v / 10 ^ k % 10]) (by omega) (by omega) e3 (by rw [List.length_append, List.length_singleton]; omega)
    rw [f_M_digits_b49]
    dsimp only
    rw [zpos, if_neg zne, gc_30, ed, edig, e1, gk_ca_some, e10, gk_let_eq]
    rw [List.append_assoc] at q3
    exact ⟨S2, q1, e2.trans q2, q3⟩
/-- from a unit on: as many digits as are wanted, or as there are -/
theorem md_27 (v : Nat) (hv : v < 1000000000000000000) (hw : w < 9) (hl : l.length + 19 ≤ 255) (a : mW S w l) : ∀ (r e fu : Nat), e + r = 18 → r < fu → ∃ S' e', f_M_digits_b27 fu (some 30) (gI w) (gJ (v : Int)) (gJ ((10 ^ e : Nat) : Int)) (gv_ov h S) = some ((), gv_ov h S') ∧ mX (mWd w) S S' ∧ mW S' w (l ++ dt v (e' + 1)) ∧ e ≤ e' ∧ e' ≤ 18 ∧ v < 10 ^ (e' + 1) ∧ (e' = e ∨ 10 ^ e' ≤ v) := by
  intro r
  have hd : gJ (v : Int) / (10 : Int64) = gJ ((v / 10 : Nat) : Int) := by
    rw [gJl_10, gJ_div _ _ (by omega) (by omega) (by decide) (by decide), Int.natCast_ediv]
    rfl
  induction r with
  | zero =>
    intro e fu he hf
    obtain ⟨fu, rfl⟩ : ∃ f, fu = f + 1 := ⟨fu - 1, by omega⟩
    have ee : e = 18 := by omega
    subst ee
    obtain ⟨S1, e1, e2, e3⟩ := md_49 (h := h) (w := w) v (by omega) hw 19 gk_F S l (by decide) (by unfold gk_F; omega) a hl
    rw [f_M_digits_b27]
    dsimp only
    rw [hd, jte_gt _ _ _ _ (by decide) (by decide) (by omega) (by omega), if_pos (by have : ((10 ^ 18 : Nat) : Int) = 1000000000000000000 := by decide
                                                                                     omega)]
    exact ⟨S1, 18, e1, e2, e3, Nat.le_refl _, Nat.le_refl _, by have : (10 : Nat) ^ 19 = 10000000000000000000 := by decide
                                                                omega, Or.inl rfl⟩
  | succ r ih =>
    intro e fu he hf
    obtain ⟨fu, rfl⟩ : ∃ f, fu = f + 1 := ⟨fu - 1, by omega⟩
    have hp2 := p18 (show e ≤ 18 by omega)
    have es : 10 ^ (e + 1) = 10 ^ e * 10 := Nat.pow_succ 10 e
    rw [f_M_digits_b27]
    dsimp only
    rw [hd, jte_gt _ _ _ _ (by omega) (by omega) (by omega) (by omega)]
    by_cases z : v < 10 ^ (e + 1)
    · obtain ⟨S1, e1, e2, e3⟩ := md_49 (h := h) (w := w) v (by omega) hw (e + 1) gk_F S l (by omega) (by unfold gk_F; omega) a (by omega)
      rw [if_pos (by omega)]
      exact ⟨S1, e, e1, e2, e3, Nat.le_refl _, by omega, z, Or.inl rfl⟩
    · obtain ⟨S1, e', q1, q2, q3, q4, q5, q6, q7⟩ := ih (e + 1) fu (by omega) (by omega)
      rw [if_neg (by omega), gJl_10, gJ_mul, gk_let_eq, show ((10 ^ e : Nat) : Int) * 10 = ((10 ^ (e + 1) : Nat) : Int) by rw [es]; omega]
      refine ⟨S1, e', q1, q2, q3, by omega, q5, q6, Or.inr ?_⟩
      rcases q7 with q | q
      · rw [q]
        omega
      · exact q
theorem m_digits1 (v : Nat) (hv : v < 1000000000000000000) (hw : w < 9) (hl : l.length + 19 ≤ 255) (a : mW S w l) : ∃ S', f_M_digits (some 30) (gI w) (gJ (v : Int)) (1 : Int32) (gv_ov h S) = some ((), gv_ov h S') ∧ mX (mWd w) S S' ∧ mW S' w (l ++ wd v) := by
  obtain ⟨S', e', q1, q2, q3, q4, q5, q6, q7⟩ := md_27 (h := h) v hv hw hl a 18 0 gk_F rfl (by unfold gk_F; omega)
  unfold f_M_digits
  have hF : gk_F = (gk_F - 1) + 1 := rfl
  conv in f_M_digits_b6 gk_F => rw [hF]
  rw [f_M_digits_b6]
  dsimp only
  rw [if_pos (by decide)]
  refine ⟨S', q1, q2, ?_⟩
  rw [wd_dt (e := e') (by omega) q6 (by omega)]
  exact q3
theorem m_digits9 (v : Nat) (hv : v < 1000000000) (hw : w < 9) (hl : l.length + 19 ≤ 255) (a : mW S w l) : ∃ S', f_M_digits (some 30) (gI w) (gJ (v : Int)) (9 : Int32) (gv_ov h S) = some ((), gv_ov h S') ∧ mX (mWd w) S S' ∧ mW S' w (l ++ (wq 9 v).reverse) := by
  obtain ⟨S', e', q1, q2, q3, q4, q5, q6, q7⟩ := md_27 (h := h) v (by omega) hw hl a 10 8 gk_F rfl (by unfold gk_F; omega)
  have e8 : e' = 8 := by
    rcases q7 with q | q
    · exact q
    · by_cases z : e' = 8
      · exact z
      · have : 10 ^ 9 ≤ 10 ^ e' := Nat.pow_le_pow_right (by decide) (by omega)
        have p9 : (10 : Nat) ^ 9 = 1000000000 := by decide
        omega
  subst e8
  have loop : ∀ (r k fu : Nat), k + r = 9 → 1 ≤ k → r < fu → f_M_digits_b6 fu (some 30) (gI w) (gJ (v : Int)) (9 : Int32) (gJ ((10 ^ (k - 1) : Nat) : Int)) (gI k) (gv_ov h S) = f_M_digits_b27 gk_F (some 30) (gI w) (gJ (v : Int)) (gJ ((10 ^ 8 : Nat) : Int)) (gv_ov h S) := by
    intro r
    induction r with
    | zero =>
      intro k fu hk hk1 hf
      obtain ⟨fu, rfl⟩ : ∃ f, fu = f + 1 := ⟨fu - 1, by omega⟩
      have ek : k = 9 := by omega
      subst ek
      rw [f_M_digits_b6]
      dsimp only
      rw [if_pos (by decide)]
    | succ r ih =>
      intro k fu hk hk1 hf
      obtain ⟨fu, rfl⟩ : ∃ f, fu = f + 1 := ⟨fu - 1, by omega⟩
      rw [f_M_digits_b6]
      dsimp only
      have es : ((10 ^ (k - 1) : Nat) : Int) * 10 = ((10 ^ (k + 1 - 1) : Nat) : Int) := by
        rw [show k + 1 - 1 = (k - 1) + 1 by omega, Nat.pow_succ]
        omega
      rw [gI_lit 9, ite_le _ _ _ _ (by decide) (by omega), if_neg (by omega), gJl_10, gJ_mul, gk_let_eq, gk_let_eq, es, show gI k + (1 : Int32) = gI (k + 1) from gI_add k 1]
      exact ih (k + 1) fu (by omega) (by omega) (by omega)
  have := loop 8 1 gk_F rfl (Nat.le_refl _) (by unfold gk_F; omega)
  unfold f_M_digits
  refine ⟨S', this.trans q1, q2, ?_⟩
  rw [← dt_wq]
  exact q3
end MWR
