/-! THE PURE PART: lookups, functions 74 to 80 (class) -/
theorem gI_div (a c : Nat) (ha : a < 2147483648) (hc : c < 2147483648) (h0 : 0 < c) : gI a / gI c = gI (a / c) := by
  have k2 : a / c ≤ a := Nat.div_le_self _ _
  apply Int32.toInt.inj
  rw [Int32.toInt_div, gI_toInt a ha, gI_toInt c hc, gI_toInt (a / c) (by omega), Int.tdiv_eq_ediv_of_nonneg (by omega), ← Int.natCast_ediv]
  generalize a / c = e at k2 ⊢
  exact Int.bmod_eq_of_le (by omega) (by omega)
theorem gI_mod (a c : Nat) (ha : a < 2147483648) (hc : c < 2147483648) (h0 : 0 < c) : gI a - gI a / gI c * gI c = gI (a % c) := by
  rw [gI_div a c ha hc h0, gI_mul, gI_sub _ _ (Nat.div_mul_le_self a c)]
  have := Nat.div_add_mod a c
  rw [Nat.mul_comm] at this
  rw [show a - a / c * c = a % c by omega]
def sp_sec (V : gp_V) (row col hi wi : Nat) (tu : Bool) : gp_V := (5, (if tu = true then wi else hi), (if tu = true then hi else wi), fun p => V.2.2.2 ((row + (if tu = true then p % hi else p / wi)) * V.2.2.1 + (col + (if tu = true then p / hi else p % wi))))
theorem sp_sec_in {row col hi wi p : Nat} (tu : Bool) (h1 : 1 ≤ hi) (h2 : 1 ≤ wi) (hp : p < hi * wi) : (if tu = true then p % hi else p / wi) < hi ∧ (if tu = true then p / hi else p % wi) < wi := by
  cases tu
  · exact ⟨Nat.div_lt_of_lt_mul (by rw [Nat.mul_comm]; exact hp), Nat.mod_lt _ (by omega)⟩
  · exact ⟨Nat.mod_lt _ (by omega), Nat.div_lt_of_lt_mul hp⟩
theorem sp_sec_N (V : gp_V) (row col hi wi : Nat) (tu : Bool) : (sp_sec V row col hi wi tu).2.1 * (sp_sec V row col hi wi tu).2.2.1 = hi * wi := by
  cases tu
  · rfl
  · exact Nat.mul_comm _ _
theorem ix_lt {r c R C : Nat} (hr : r < R) (hc : c < C) : r * C + c < R * C := by
  have h1 : (r + 1) * C ≤ R * C := Nat.mul_le_mul_right _ hr
  rw [Nat.add_mul] at h1
  omega
theorem sp_sec_ok {V : gp_V} (hV : gp_okV V) {row col hi wi : Nat} (tu : Bool) (h1 : 1 ≤ hi) (h2 : 1 ≤ wi) (h3 : row + hi ≤ V.2.1) (h4 : col + wi ≤ V.2.2.1) : gp_okV (sp_sec V row col hi wi tu) := by
  have hN : hi * wi ≤ 16 := Nat.le_trans (Nat.mul_le_mul (show hi ≤ V.2.1 by omega) (show wi ≤ V.2.2.1 by omega)) hV.2.2.1
  refine ⟨?_, ?_, ?_, fun k hk => ?_, Or.inl rfl⟩
  · cases tu
    · exact h1
    · exact h2
  · cases tu
    · exact h2
    · exact h1
  · rw [sp_sec_N]
    exact hN
  · rw [sp_sec_N] at hk
    obtain ⟨q1, q2⟩ := sp_sec_in (row := row) (col := col) tu h1 h2 hk
    exact hV.2.2.2.1 _ (ix_lt (by omega) (by omega))
section LOO
variable {b n : Nat} {h : gk_H} {S : gv_S} {vs : Nat → gp_V} {f : Nat} {row : List UInt64} {j i : Nat} {l t : List Nat}
theorem v_atE {V : gp_V} (a : gp_val b h i V) (k : Nat) (hk : k < V.2.1 * V.2.2.1) : ∃ j, gp_cell b h j (V.2.2.2 k) ∧ ∀ (c s : Nat) (h' : gk_H) (S : gv_S), gp_ext c s h h' → f_Va_cellAt (some i) (gI k) (gv_ov h' S) = some (some j, gv_ov h' S) := by
  obtain ⟨a0, ⟨a1, a2⟩ | ⟨a1, w, a2, a3, a4, a5, a6, a7⟩⟩ := a
  · rcases a0.2.2.2.2 with z | ⟨z1, z2, z3⟩
    · exact absurd z a1
    · rw [z2, z3] at hk
      have : k = 0 := by omega
      subst this
      refine ⟨i, a2, fun c s h' S e => ?_⟩
      unfold f_Va_cellAt f_Va_cellAt_b20
      rw [fl_6 (a2.ext e).2, if_pos rfl]
  · obtain ⟨j, j1, j2⟩ := a7 k hk
    have h16 := a0.2.2.1
    refine ⟨j, j2, fun c s h' S e => ?_⟩
    have ea := e.2.2.2 w a3
    have a2' := a2.keep (e.keep b)
    unfold f_Va_cellAt
    rw [fl_6 a2', if_neg (by simp), gI_0, ite_lt _ _ _ _ (by omega) (by decide), if_neg (by omega), fl_6 a2', gp_len a4.1 (by rw [ea, a5]; decide), ea, a6, ite_lt _ _ _ _ (by omega) (by omega), if_pos hk, fl_6 a2', gp_aldR a4.1 (by rw [ea]; exact a5) (by rw [ea]; omega) (by rw [ea]; omega) (by rw [ea]; exact j1)]
theorem v_inE {V : gp_V} (a : gp_val b h i V) (r c : Nat) (hr : r < V.2.1) (hc : c < V.2.2.1) : ∃ j, gp_cell b h j (V.2.2.2 (r * V.2.2.1 + c)) ∧ ∀ (k s : Nat) (h' : gk_H) (S : gv_S), gp_ext k s h h' → f_Va_cellIn (some i) (gI r) (gI c) (gv_ov h' S) = some (some j, gv_ov h' S) := by
  obtain ⟨j, j1, j2⟩ := v_atE a _ (ix_lt hr hc)
  refine ⟨j, j1, fun k s h' S e => ?_⟩
  obtain ⟨cs, f⟩ := (a.ext e).fld
  unfold f_Va_cellIn
  rw [fl_5 f, fl_cv f, gI_mul, gI_add, j2 k s h' S e, gk_ca_some]
theorem k_section (hc : gp_cs b h) {V : gp_V} (hv : gp_val b h i V) (row col hi wi : Nat) (h1 : 1 ≤ hi) (h2 : 1 ≤ wi) (h3 : row + hi ≤ V.2.1) (h4 : col + wi ≤ V.2.2.1) (tu : Bool) : ∃ r h', f_Lo_section (some i) (gI row) (gI col) (gI hi) (gI wi) (gB tu) (gv_ov h S) = some (some r, gv_ov h' S) ∧ gp_val b h' r (sp_sec V row col hi wi tu) ∧ gp_ext 2 23 h h' := by
  obtain ⟨g16, g16'⟩ := gp_ok16 hv.1
  have hN : hi * wi ≤ 16 := Nat.le_trans (Nat.mul_le_mul (show hi ≤ V.2.1 by omega) (show wi ≤ V.2.2.1 by omega)) hv.1.2.2.1
  have h44 := hc.1.1
  have hbl := hc.2.1
  have f44 : gv_fx h.1 = false := gv_fx_hi h44
  have loop : ∀ (r k fu : Nat) (g : gk_H), k + r = hi * wi → r < fu → gp_ext 1 16 h g → g.1 = h.1 + 1 → (g.2.2 h.1).1 = 7 → (g.2.2 h.1).2.1 = hi * wi → (∀ m, m < k → ∃ j : Nat, (g.2.2 h.1).2.2 m = va_rf (some j) ∧ gp_cell b h j ((sp_sec V row col hi wi tu).2.2.2 m)) → ∃ r h', f_Lo_section_b28 fu (some i) (gI row) (gI col) (gB tu) (gI hi) (gI wi) (some h.1) (gI k) (gv_ov g S) = some (some r, gv_ov h' S) ∧ gp_val b h' r (sp_sec V row col hi wi tu) ∧ gp_ext 2 23 h h' := by
    intro r
    induction r with
    | zero =>
      intro k fu g hk hf he hg1 ht hn hcells
      obtain ⟨fu, rfl⟩ : ∃ f, fu = f + 1 := ⟨fu - 1, by omega⟩
      have hcg := hc.ext he
      obtain ⟨r, h', r1, r2, r3⟩ := v_cells (S := S) hcg (sp_sec_ok hv.1 tu h1 h2 h3 h4) rfl (a := h.1) (by omega) (gp_im_hi h44 (by omega)) ht (by rw [sp_sec_N]; exact hn) (fun m hm => by
        rw [sp_sec_N] at hm
        obtain ⟨j, j1, j2⟩ := hcells m (by omega)
        exact ⟨j, j1, j2.ext he⟩)
      rw [f_Lo_section_b28]
      unfold f_Lo_section_b111 f_Lo_section_b123
      simp only [ca_id]
      rw [gp_len f44 (by rw [ht]; decide), hn, ite_le _ _ _ _ (by omega) (by omega), if_pos (by omega), ite_B, ite_B]
      refine ⟨r, h', ?_, r2, he.trans r3⟩
      cases tu
      · exact r1
      · exact r1
    | succ r ih =>
      intro k fu g hk hf he hg1 ht hn hcells
      obtain ⟨fu, rfl⟩ : ∃ f, fu = f + 1 := ⟨fu - 1, by omega⟩
      have hvg := hv.ext he
      obtain ⟨d1, d2⟩ := sp_sec_in (row := row) (col := col) tu h1 h2 (show k < hi * wi by omega)
      obtain ⟨j, hcell, hE⟩ := v_inE hv (row + (if tu = true then k % hi else k / wi)) (col + (if tu = true then k / hi else k % wi)) (by omega) (by omega)
      have j1 := hE _ _ g S he
      have j2 := hcell.ext he
      have b74 : ∀ p q : Int32, p = gI (if tu = true then k % hi else k / wi) → q = gI (if tu = true then k / hi else k % wi) → ∃ r h', f_Lo_section_b74 (f_Lo_section_b28 fu) (some i) (gI row) (gI col) (gB tu) (gI hi) (gI wi) (some h.1) (gI k) p q (gv_ov g S) = some (some r, gv_ov h' S) ∧ gp_val b h' r (sp_sec V row col hi wi tu) ∧ gp_ext 2 23 h h' := by
        intro p q hp hq
        unfold f_Lo_section_b74
        obtain ⟨cs, fv⟩ := hvg.fld
        have hm : gk_may (gv_ov g S) 7 (va_rf (some j)) = true := by
          unfold gk_may va_rf
          show decide (((gv_ov g S).2.2 j).1 = 12) = true
          rw [gv_no j2.2.2.1.1, decide_eq_true_iff]
          exact j2.2.2.2.1
        rw [hp, hq, gI_add, gI_add, fl_cv fv, j1, gk_ca_some, gp_ast f44 (by omega) ht (by omega) (by omega) hm, gk_let_eq, show gI k + (1 : Int32) = gI (k + 1) from gI_add k 1]
        refine ih (k + 1) fu _ (by omega) (by omega) ⟨he.1, he.2.1, he.2.2.1, fun x hx => ?_⟩ hg1 ?_ ?_ fun m hm2 => ?_
        · rw [gp_upd_ne _ _ _ _ (by omega)]
          exact he.2.2.2 x hx
        · rw [gp_upd_at]
        · rw [gp_upd_at]
          exact hn
        · rw [gp_upd_at]
          show ∃ j : Nat, gk_put _ k _ m = _ ∧ _
          by_cases z : m = k
          · rw [z, gp_put_at]
            exact ⟨j, rfl, hcell⟩
          · rw [gp_put_ne _ _ _ _ z]
            exact hcells m (by omega)
      have n0 : ∀ w : Nat, 1 ≤ w → w ≤ 16 → ∀ {β : Type} (x y : β), (if gI w = (0 : Int32) then x else y) = y := fun w hw1 hw2 _ x y => by
        rw [show (0 : Int32) = gI 0 from rfl, ite_eq _ _ _ _ (by omega) (by decide), if_neg (by omega)]
      rw [f_Lo_section_b28]
      unfold f_Lo_section_b54
      dsimp only
      rw [gp_len f44 (by rw [ht]; decide), hn, ite_le _ _ _ _ (by omega) (by omega), if_neg (by omega), ite_B, ite_B, ite_B]
      simp only [n0 wi h2 (by omega), n0 hi h1 (by omega)]
      cases tu
      · rw [if_neg (by decide), if_neg (by decide)]
        exact b74 _ _ (gI_div k wi (by omega) (by omega) (by omega)) (gI_mod k wi (by omega) (by omega) (by omega))
      · rw [if_pos rfl, if_pos rfl]
        exact b74 _ _ (gI_mod k hi (by omega) (by omega) (by omega)) (gI_div k hi (by omega) (by omega) (by omega))
  unfold f_Lo_section
  rw [show (1 : Int32) = gI 1 from rfl, f_max _ _ (by decide) (by omega), gk_ca_some, f_max _ _ (by decide) (by omega), gk_ca_some, show max 1 hi = hi by omega, show max 1 wi = wi by omega, gI_mul, gp_na 7 _ h44 (by omega)]
  refine loop (hi * wi) 0 gk_F (gk_mkA h 7 (hi * wi)) (by omega) (by unfold gk_F; omega) ⟨Nat.le_succ _, Nat.le_refl _, ?_, fun x hx => ?_⟩ rfl ?_ ?_ (fun m hm => absurd hm (Nat.not_lt_zero m))
  · show h.2.1 + hi * wi ≤ h.2.1 + 16
    omega
  · exact gp_new_ne _ _ _ _ (by omega)
  · show ((gk_new h (hi * wi) _).2.2 h.1).1 = 7
    rw [gp_new_at]
  · show ((gk_new h (hi * wi) _).2.2 h.1).2.1 = hi * wi
    rw [gp_new_at]
end LOO
