/-! THE PURE PART: arguments (the class), the rest -/
theorem fd_53_n : fd_n 0x4340000000000000 := (FP.Core.ne_nan _).mpr (by decide)
theorem fd_m53_n : fd_n 0xc340000000000000 := (FP.Core.ne_nan _).mpr (by decide)
theorem fd_53_k : fd_k 0x4340000000000000 = 4845873199050653696 := by decide
theorem fd_m53_k : fd_k 0xc340000000000000 = -4845873199050653696 := by decide
theorem m_within {x : UInt64} (hx : fd_n x) (h : gk_H) : f_Am_isWithinWhole x h = some (if -4845873199050653696 < fd_k x ∧ fd_k x < 4845873199050653696 then 1 else 0, h) := by
  unfold f_Am_isWithinWhole f_Am_isWithinWhole_b20 f_Am_isWithinWhole_b21
  rw [fi_ge _ _ hx fd_53_n, fi_le _ _ hx fd_m53_n, fd_53_k, fd_m53_k, nb0, nb1]
  by_cases h1 : 4845873199050653696 ≤ fd_k x
  · rw [if_pos h1, if_neg (by omega)]
  · rw [if_neg h1]
    by_cases h2 : fd_k x ≤ -4845873199050653696
    · rw [if_pos h2, if_neg (by omega)]
    · rw [if_neg h2, if_pos (by omega)]
/-- the first error among n cells; their numbers -/
def sc_err (cs : Nat → gp_C) : Nat → Nat
  | 0 => 0
  | k + 1 => bl (sc_err cs k) (sp_err (cs k))
def sc_row (cs : Nat → gp_C) : Nat → List UInt64
  | 0 => []
  | k + 1 => sc_row cs k ++ (if (cs k).1 = 1 then [(cs k).2.2.1] else [])
theorem sc_row_len (cs : Nat → gp_C) : ∀ n, (sc_row cs n).length ≤ n
  | 0 => Nat.le_refl _
  | n + 1 => by
    have := sc_row_len cs n
    unfold sc_row
    rw [List.length_append]
    split
    · rw [List.length_singleton]
      omega
    · rw [List.length_nil]
      omega
/-- the row of numbers of n arguments: the first error, the numbers -/
def sg_err (vs : Nat → gp_V) : Nat → Nat
  | 0 => 0
  | k + 1 => bl (sg_err vs k) (if (vs k).1 = 5 then sc_err (vs k).2.2.2 ((vs k).2.1 * (vs k).2.2.1) else (sp_num (sp_1 (vs k))).1)
def sg_row (vs : Nat → gp_V) : Nat → List UInt64
  | 0 => []
  | k + 1 => sg_row vs k ++ (if (vs k).1 = 5 then sc_row (vs k).2.2.2 ((vs k).2.1 * (vs k).2.2.1) else [(sp_num (sp_1 (vs k))).2])
/-- a row sorted in, as the programs do -/
def sr_ins (x : UInt64) : List UInt64 → List UInt64
  | [] => [x]
  | y :: r => if fd_k x < fd_k y then x :: y :: r else y :: sr_ins x r
theorem sc_err_le {cs : Nat → gp_C} : ∀ n, (∀ k, k < n → gp_okC (cs k)) → sc_err cs n ≤ 8
  | 0, _ => Nat.zero_le _
  | n + 1, h => bl_le (sc_err_le n fun k hk => h k (by omega)) (sp_err_le (h n (by omega)))
theorem sp_who_le {c : gp_C} (h : gp_okC c) : (sp_who c).1 ≤ 8 := by
  unfold sp_who
  split
  · exact sp_num_le h
  · show 6 ≤ 8; decide
section GPA
variable {b : Nat} {h : gk_H} {S : gv_S} {vs : Nat → gp_V} {n f : Nat} {row : List UInt64}
theorem a_whole (a : ga b h S vs n) (hs : gp_st h) (k : Nat) (hk : k < n) (hf : f ≤ 8) : f_Ar_whole (some 20) (gI k) (gv_ov h (gA S f row)) = some ((sp_who (sp_1 (vs k))).2, gv_ov h (gA S (bl f (sp_who (sp_1 (vs k))).1) row)) := by
  have ok : gp_okC (sp_1 (vs k)) := by
    obtain ⟨-, j, -, q⟩ := a.2.2 k hk
    exact q.1
  have hn := sp_num_n ok
  have hle := sp_num_le ok
  unfold f_Ar_whole sp_who
  rw [gc_20, a_amount a hs k hk hf, gk_ca_some, m_within hn, gk_ca_some]
  by_cases z : -4845873199050653696 < fd_k (sp_num (sp_1 (vs k))).2 ∧ fd_k (sp_num (sp_1 (vs k))).2 < 4845873199050653696
  · rw [if_pos z, if_pos z, if_neg (by decide)]
  · rw [if_neg z, if_neg z, if_pos rfl, gc_20, gI_lit 6, a_blame _ 6 (bl_le hf hle), gk_ca_some, bl_bl]
    have e0 : (sp_num (sp_1 (vs k))).1 = 0 := by
      have key : (sp_num (sp_1 (vs k))).1 ≠ 0 → fd_k (sp_num (sp_1 (vs k))).2 = 0 := by
        unfold sp_num
        split
        · intro w; exact absurd rfl w
        · split
          · split
            · intro w; exact absurd rfl w
            · intro _; rfl
          · split
            · intro w; exact absurd rfl w
            · intro _; rfl
      by_cases w : (sp_num (sp_1 (vs k))).1 = 0
      · exact w
      · exact absurd (key w) (by intro y; rw [y] at z; exact z (by decide))
    rw [e0]
    rfl
theorem a_wholeOr (a : ga b h S vs n) (hs : gp_st h) (k : Nat) (hk : k ≤ n) (d : Int64) (hf : f ≤ 8) : f_Ar_wholeOr (some 20) (gI k) d (gv_ov h (gA S f row)) = some (if k < n then (sp_who (sp_1 (vs k))).2 else d, gv_ov h (gA S (if k < n then bl f (sp_who (sp_1 (vs k))).1 else f) row)) := by
  obtain ⟨a1, a2, a3⟩ := id a
  unfold f_Ar_wholeOr f_Ar_wholeOr_b17
  rw [gg_20_2, gA_2, a2, ite_le _ _ _ _ (by omega) (by omega), gc_20]
  by_cases z : k < n
  · rw [if_neg (by omega), if_pos z, if_pos z, a_whole a hs k z hf, gk_ca_some]
  · rw [if_pos (by omega), if_neg z, if_neg z]
theorem ok_t128 {c : gp_C} (h : gp_okC c) : ∀ x ∈ c.2.2.2, x < 128 := fun x hx => by
  have := h.2.2.2.2.2.2.2.2.2 x hx
  omega
theorem a_truth (a : ga b h S vs n) (hc : gp_cs b h) (k : Nat) (hk : k < n) (hf : f ≤ 8) : f_Ar_truth (some 20) (gI k) (gv_ov h (gA S f row)) = some (gB (sp_tru (sp_1 (vs k))).2, gv_ov h (gA S (bl f (sp_tru (sp_1 (vs k))).1) row)) := by
  obtain ⟨j, e1, e2⟩ := a_sound (row := row) a k hk hf
  have h4 := e2.1.1
  have ok := e2.1
  obtain ⟨s, s1, s2⟩ := fl_3 e2.2
  have hl := ok.2.2.2.2.2.2.2.2.1
  have hcode : (sp_1 (vs k)).2.1 ≤ 8 := by
    by_cases q3 : (sp_1 (vs k)).1 = 3
    · have := ok.2.2.2.2.1 q3
      omega
    · by_cases q4 : (sp_1 (vs k)).1 = 4
      · have := ok.2.2.2.2.2.1 q4
        omega
      · have := ok.2.2.2.2.2.2.1 q3 q4
        omega
  have bT := nl_ord_bound (sp_1 (vs k)).2.2.2 nl_T (ok_t128 ok) (by decide) (by omega) (by decide)
  have bF := nl_ord_bound (sp_1 (vs k)).2.2.2 nl_F (ok_t128 ok) (by decide) (by omega) (by decide)
  unfold f_Ar_truth f_Ar_truth_b39 f_Ar_truth_b43 f_Ar_truth_b44 sp_tru
  rw [gc_20, e1, gk_ca_some, fl_0 e2.2, gI_lit 2, ite_eq _ _ _ _ (by omega) (by decide)]
  by_cases z2 : (sp_1 (vs k)).1 = 2
  · have ze : sp_err (sp_1 (vs k)) = 0 := if_neg (by omega)
    have e6 : f_Le_order (some s) (some 6) (gv_ov h (gA S f row)) = some (gN (nl_ord (sp_1 (vs k)).2.2.2 nl_T), gv_ov h (gA S f row)) := n_order hc.1 s1 hc.2.2.2.1 (by omega) (by decide)
    have e8 : f_Le_order (some s) (some 8) (gv_ov h (gA S f row)) = some (gN (nl_ord (sp_1 (vs k)).2.2.2 nl_F), gv_ov h (gA S f row)) := n_order hc.1 s1 hc.2.2.2.2.1 (by omega) (by decide)
    rw [if_pos z2, if_pos z2, s2, ze, bl_0, e6, gk_ca_some]
    rw [gN_0, nte_eq _ _ _ _ (by omega) (by omega) (by decide) (by decide), ← gN_0]
    unfold f_Ar_truth_b62 f_Ar_truth_b84
    by_cases y1 : nl_ord (sp_1 (vs k)).2.2.2 nl_T = 0
    · rw [if_pos y1, if_pos y1, if_neg (by decide), nb1, bl_0]
      rfl
    · rw [if_neg y1, if_neg y1, if_pos rfl, s2, e8, gk_ca_some, gN_0, nte_eq _ _ _ _ (by omega) (by omega) (by decide) (by decide), ← gN_0, nb0]
      by_cases y2 : nl_ord (sp_1 (vs k)).2.2.2 nl_F = 0
      · rw [if_pos y2, if_pos y2, bl_0]
        rfl
      · rw [if_neg y2, if_neg y2, gc_20, gI_lit 3, a_blame f 3 hf, gk_ca_some, nb0]
        rfl
  · rw [if_neg z2, if_neg z2, fl_2 e2.2, fi_eq _ _ ok.2.1.n fd_0_n, fd_k0, fl_0 e2.2, gI_lit 3, ite_eq _ _ _ _ (by omega) (by decide), fl_1 e2.2, gI_lit 1, ite_eq _ _ _ _ (by omega) (by decide), ← gI_lit 1, nb0, nb1]
    by_cases y1 : fd_k (sp_1 (vs k)).2.2.1 = 0
    · rw [if_pos y1]
      by_cases y2 : (sp_1 (vs k)).1 = 3
      · rw [if_pos y2]
        by_cases y3 : (sp_1 (vs k)).2.1 = 1
        · rw [if_pos y3, decide_eq_true (show fd_k (sp_1 (vs k)).2.2.1 ≠ 0 ∨ (sp_1 (vs k)).1 = 3 ∧ (sp_1 (vs k)).2.1 = 1 from Or.inr ⟨y2, y3⟩)]
          rfl
        · rw [if_neg y3, decide_eq_false (fun w => w.elim (fun q => q y1) (fun q => y3 q.2))]
          rfl
      · rw [if_neg y2, decide_eq_false (fun w => w.elim (fun q => q y1) (fun q => y2 q.1))]
        rfl
    · rw [if_neg y1, decide_eq_true (Or.inl y1)]
      rfl
theorem a_truthOr (a : ga b h S vs n) (hc : gp_cs b h) (k : Nat) (hk : k ≤ n) (d : Bool) (hf : f ≤ 8) : f_Ar_truthOr (some 20) (gI k) (gB d) (gv_ov h (gA S f row)) = some (gB (if k < n then (sp_tru (sp_1 (vs k))).2 else d), gv_ov h (gA S (if k < n then bl f (sp_tru (sp_1 (vs k))).1 else f) row)) := by
  obtain ⟨a1, a2, a3⟩ := id a
  unfold f_Ar_truthOr f_Ar_truthOr_b17
  rw [gg_20_2, gA_2, a2, ite_le _ _ _ _ (by omega) (by omega), gc_20, nbB]
  by_cases z : k < n
  · rw [if_neg (by omega), if_pos z, if_pos z, a_truth a hc k z hf, gk_ca_some, nbB]
  · rw [if_pos (by omega), if_neg z, if_neg z]
theorem a_many (a : ga b h S vs n) : f_Ar_howMany (some 20) (gv_ov h (gA S f row)) = some (gI n, gv_ov h (gA S f row)) := by
  unfold f_Ar_howMany
  rw [gg_20_2, gA_2, a.2.1]
theorem a_bcloop {i : Nat} {V : gp_V} (hv : gp_val b h i V) : ∀ (fu k : Nat), k ≤ V.2.1 * V.2.2.1 → V.2.1 * V.2.2.1 - k < fu → ∀ f0, f0 ≤ 8 → f_Ar_blameCells_b8 fu (some 20) (some i) (gI k) (gv_ov h (gA S (bl f0 (sc_err V.2.2.2 k)) row)) = some ((), gv_ov h (gA S (bl f0 (sc_err V.2.2.2 (V.2.1 * V.2.2.1))) row)) := by
  intro fu
  have h16 := hv.1.2.2.1
  obtain ⟨cs, fl⟩ := hv.fld
  induction fu with
  | zero => intro k _ hf; omega
  | succ fu ih =>
    intro k hk hf f0 hf0
    rw [f_Ar_blameCells_b8]
    dsimp only
    rw [fl_cv fl, v_many hv, gk_ca_some, ite_le _ _ _ _ (by omega) (by omega)]
    by_cases z : V.2.1 * V.2.2.1 ≤ k
    · rw [if_pos z, show k = V.2.1 * V.2.2.1 by omega]
    · obtain ⟨j, j1, j2⟩ := v_at (S := gA S (bl f0 (sc_err V.2.2.2 k)) row) hv k (by omega)
      have h4 := j2.1.1
      have hle : sc_err V.2.2.2 k ≤ 8 := sc_err_le k fun m hm => hv.1.2.2.2.1 m (by omega)
      rw [if_neg z, fl_cv fl, j1, gk_ca_some, fl_0 j2.2, gI_lit 4, ite_eq _ _ _ _ (by omega) (by decide), fl_cv fl, j1, gk_ca_some, fl_1 j2.2, gc_20, a_blame _ _ (bl_le hf0 hle), gk_ca_some, bl_bl]
      unfold f_Ar_blameCells_b40
      have hn := ih (k + 1) (by omega) (by omega) f0 hf0
      have he : sc_err V.2.2.2 (k + 1) = bl (sc_err V.2.2.2 k) (sp_err (V.2.2.2 k)) := rfl
      rw [he] at hn
      unfold sp_err at hn
      by_cases w : (V.2.2.2 k).1 = 4
      · rw [if_pos w] at hn ⊢
        rw [gk_let_eq, gI_1, gI_add]
        exact hn
      · rw [if_neg w] at hn ⊢
        rw [bl_0] at hn
        rw [gk_let_eq, gI_1, gI_add]
        exact hn
theorem a_blameCells (a : ga b h S vs n) (k : Nat) (hk : k < n) (hf : f ≤ 8) : f_Ar_blameCells (some 20) (gI k) (gv_ov h (gA S f row)) = some ((), gv_ov h (gA S (bl f (sc_err (vs k).2.2.2 ((vs k).2.1 * (vs k).2.2.1))) row)) := by
  obtain ⟨i, e1, e2⟩ := a_raw (f := f) (row := row) a k hk
  have h16 := e2.1.2.2.1
  unfold f_Ar_blameCells
  rw [gc_20, e1, gk_ca_some]
  have := a_bcloop (S := S) (row := row) e2 gk_F 0 (Nat.zero_le _) (by unfold gk_F; omega) f hf
  have e0 : bl f (sc_err (vs k).2.2.2 0) = f := bl_0 f
  rw [e0] at this
  exact this
theorem a_add (x : UInt64) (hr : row.length < 128) : f_Ar_addToRow (some 20) x (gv_ov h (gA S f row)) = some ((), gv_ov h (gA S f (row ++ [x]))) := by
  unfold f_Ar_addToRow f_Ar_addToRow_b32
  rw [gg_20_5, gA_in, gr_20_4, gl_23, ite_le _ _ _ _ (by decide) (by omega), if_neg (by omega), gr_20_4, gg_20_5, gA_in, gt_23 hr, gg_20_5]
  have e : (gv_uD (gA S f row) 23 row.length x).1 20 5 = gI row.length := rfl
  rw [e, gI_1, gI_add, gs_20_5, gA_push]
theorem a_gcloop {i : Nat} {V : gp_V} (hv : gp_val b h i V) : ∀ (fu k : Nat), k ≤ V.2.1 * V.2.2.1 → V.2.1 * V.2.2.1 - k < fu → ∀ row0 : List UInt64, row0.length + 16 ≤ 128 → f_Ar_gatherCells_b13 fu (some 20) (some i) (gI k) (gv_ov h (gA S f (row0 ++ sc_row V.2.2.2 k))) = some ((), gv_ov h (gA S f (row0 ++ sc_row V.2.2.2 (V.2.1 * V.2.2.1)))) := by
  intro fu
  have h16 := hv.1.2.2.1
  obtain ⟨cs, fl⟩ := hv.fld
  induction fu with
  | zero => intro k _ hf; omega
  | succ fu ih =>
    intro k hk hf row0 hr
    rw [f_Ar_gatherCells_b13]
    dsimp only
    rw [fl_cv fl, v_many hv, gk_ca_some, ite_le _ _ _ _ (by omega) (by omega)]
    by_cases z : V.2.1 * V.2.2.1 ≤ k
    · rw [if_pos z, show k = V.2.1 * V.2.2.1 by omega]
    · obtain ⟨j, j1, j2⟩ := v_at (S := gA S f (row0 ++ sc_row V.2.2.2 k)) hv k (by omega)
      have h4 := j2.1.1
      have hlen := sc_row_len V.2.2.2 k
      rw [if_neg z, fl_cv fl, j1, gk_ca_some, fl_0 j2.2, gI_lit 1, ite_eq _ _ _ _ (by omega) (by decide), fl_2 j2.2, gc_20, a_add _ (by rw [List.length_append]; omega), gk_ca_some]
      unfold f_Ar_gatherCells_b46
      have hn := ih (k + 1) (by omega) (by omega) row0 hr
      have he : sc_row V.2.2.2 (k + 1) = sc_row V.2.2.2 k ++ (if (V.2.2.2 k).1 = 1 then [(V.2.2.2 k).2.2.1] else []) := rfl
      rw [he] at hn
      rw [gk_let_eq, gk_let_eq, gI_lit 1, gI_add]
      by_cases w : (V.2.2.2 k).1 = 1
      · rw [if_pos w] at hn ⊢
        rw [List.append_assoc]
        exact hn
      · rw [if_neg w] at hn ⊢
        rw [List.append_nil] at hn
        exact hn
theorem a_gatherCells (a : ga b h S vs n) (k : Nat) (hk : k < n) (hf : f ≤ 8) (hr : row.length + 16 ≤ 128) : f_Ar_gatherCells (some 20) (gI k) (gv_ov h (gA S f row)) = some ((), gv_ov h (gA S (bl f (sc_err (vs k).2.2.2 ((vs k).2.1 * (vs k).2.2.1))) (row ++ sc_row (vs k).2.2.2 ((vs k).2.1 * (vs k).2.2.1)))) := by
  obtain ⟨i, e1, e2⟩ := a_raw (f := f) (row := row) a k hk
  have h16 := e2.1.2.2.1
  unfold f_Ar_gatherCells
  rw [gc_20, e1, gk_ca_some, gc_20, a_blameCells a k hk hf, gk_ca_some]
  have := a_gcloop (S := S) (f := bl f (sc_err (vs k).2.2.2 ((vs k).2.1 * (vs k).2.2.1))) e2 gk_F 0 (Nat.zero_le _) (by unfold gk_F; omega) row hr
  have e0 : row ++ sc_row (vs k).2.2.2 0 = row := List.append_nil _
  rw [e0] at this
  exact this
theorem sg_row_len (vs : Nat → gp_V) : ∀ n, (∀ k, k < n → gp_okV (vs k)) → (sg_row vs n).length ≤ 16 * n
  | 0, _ => Nat.le_refl _
  | n + 1, hv => by
    have := sg_row_len vs n fun k hk => hv k (by omega)
    have h2 := sc_row_len (vs n).2.2.2 ((vs n).2.1 * (vs n).2.2.1)
    have h3 := (hv n (by omega)).2.2.1
    unfold sg_row
    rw [List.length_append]
    split
    · omega
    · rw [List.length_singleton]
      omega
theorem sg_err_le (vs : Nat → gp_V) : ∀ n, (∀ k, k < n → gp_okV (vs k)) → sg_err vs n ≤ 8
  | 0, _ => Nat.zero_le _
  | n + 1, hv => by
    refine bl_le (sg_err_le vs n fun k hk => hv k (by omega)) ?_
    split
    · exact sc_err_le _ fun k hk => (hv n (by omega)).2.2.2.1 k hk
    · exact sp_num_le (sp_1_ok (hv n (by omega)))
theorem ga.ok (a : ga b h S vs n) : ∀ k, k < n → gp_okV (vs k) := fun k hk => by
  obtain ⟨⟨i, -, q⟩, -⟩ := a.2.2 k hk
  exact q.1
theorem a_gloop (a : ga b h S vs n) (hs : gp_st h) : ∀ (fu k : Nat), k ≤ n → n - k < fu → f_Ar_gather_b2 fu (some 20) (gI k) (gv_ov h (gA S (sg_err vs k) (sg_row vs k))) = some ((), gv_ov h (gA S (sg_err vs n) (sg_row vs n))) := by
  intro fu
  have hn8 := a.1
  induction fu with
  | zero => intro k _ hf; omega
  | succ fu ih =>
    intro k hk hf
    rw [f_Ar_gather_b2]
    dsimp only
    rw [gg_20_2, gA_2, a.2.1, ite_le _ _ _ _ (by omega) (by omega)]
    by_cases z : n ≤ k
    · rw [if_pos z, show k = n by omega]
    · have hok : ∀ m, m < k → gp_okV (vs m) := fun m hm => a.ok m (by omega)
      have hle := sg_err_le vs k hok
      have hlen := sg_row_len vs k hok
      obtain ⟨i, e1, e2⟩ := a_raw (f := sg_err vs k) (row := sg_row vs k) a k (by omega)
      obtain ⟨cs, fl⟩ := e2.fld
      have h5 : (vs k).1 ≤ 5 := by
        rcases e2.1.2.2.2.2 with q | ⟨q, -, -⟩
        · omega
        · have h16 := e2.1.2.2.2.1 0 (by have := e2.1.1; have := e2.1.2.1; exact Nat.mul_pos (by omega) (by omega))
          have := h16.1
          omega
      have hn := ih (k + 1) (by omega) (by omega)
      have he1 : sg_err vs (k + 1) = bl (sg_err vs k) (if (vs k).1 = 5 then sc_err (vs k).2.2.2 ((vs k).2.1 * (vs k).2.2.1) else (sp_num (sp_1 (vs k))).1) := rfl
      have he2 : sg_row vs (k + 1) = sg_row vs k ++ (if (vs k).1 = 5 then sc_row (vs k).2.2.2 ((vs k).2.1 * (vs k).2.2.1) else [(sp_num (sp_1 (vs k))).2]) := rfl
      rw [he1, he2] at hn
      unfold f_Ar_gather_b39
      rw [if_neg z, gc_20, e1, gk_ca_some, fl_0 fl, gI_lit 5, ite_eq _ _ _ _ (by omega) (by decide), gc_20, gc_20]
      by_cases w : (vs k).1 = 5
      · rw [if_pos w] at hn ⊢
        rw [if_pos w] at hn
        rw [a_gatherCells a k (by omega) hle (by omega), gk_ca_some, gk_let_eq, gI_1, gI_add]
        exact hn
      · rw [if_neg w] at hn ⊢
        rw [if_neg w] at hn
        rw [a_amount a hs k (by omega) hle, gk_ca_some, gc_20, a_add _ (by omega), gk_ca_some, gk_let_eq, gI_1, gI_add]
        exact hn
theorem a_gather (a : ga b h S vs n) (hs : gp_st h) : f_Ar_gather (some 20) (gv_ov h (gA S 0 [])) = some ((), gv_ov h (gA S (sg_err vs n) (sg_row vs n))) := a_gloop a hs gk_F 0 (Nat.zero_le _) (by have := a.1; unfold gk_F; omega)
theorem a_inRow : f_Ar_inRow (some 20) (gv_ov h (gA S f row)) = some (gI row.length, gv_ov h (gA S f row)) := by
  unfold f_Ar_inRow
  rw [gg_20_5, gA_in]
theorem gA_row (k : Nat) (hk : k < row.length) : (gA S f row).2.1 23 k = row.getD k 0 := if_pos ⟨rfl, hk⟩
theorem a_ofRow (k : Nat) (hr : row.length ≤ 128) : f_Ar_ofRow (some 20) (gI k) (gv_ov h (gA S f row)) = some (row.getD k 0, gv_ov h (gA S f row)) ∨ 2147483648 ≤ k := by
  by_cases hk : k < 2147483648
  · refine Or.inl ?_
    unfold f_Ar_ofRow f_Ar_ofRow_b21 f_Ar_ofRow_b22
    rw [gI_0, ite_lt _ _ _ _ hk (by decide), if_neg (by omega), gg_20_5, gA_in, ite_le _ _ _ _ (by omega) hk]
    by_cases z : row.length ≤ k
    · rw [if_pos z, List.getD_eq_getElem?_getD, List.getElem?_eq_none z]
      rfl
    · rw [if_neg z, gr_20_4, ga_23 (by omega), gA_row k (by omega)]
  · exact Or.inr (by omega)
theorem a_faultOr (hc : gp_cs b h) {i : Nat} {V : gp_V} (hv : gp_val b h i V) (hf : f ≤ 8) : ∃ r h', f_Ar_faultOr (some 20) (some i) (gv_ov h (gA S f row)) = some (some r, gv_ov h' (gA S f row)) ∧ gp_val b h' r (if f = 0 then V else gV_1 (gc_e f)) ∧ gp_ext 1 7 h h' := by
  unfold f_Ar_faultOr f_Ar_faultOr_b18
  rw [gg_20_3, gA_fault, gI_0, ite_eq _ _ _ _ (by omega) (by decide), gg_20_3, gA_fault]
  by_cases z : f = 0
  · rw [if_pos z, if_pos z]
    exact ⟨i, h, rfl, hv, (gp_ext.refl h).le (by decide) (by decide)⟩
  · rw [if_neg z, if_neg z]
    obtain ⟨r, h', e1, e2, e3⟩ := v_err (S := gA S f row) hc f (by omega) hf
    rw [e1, gk_ca_some]
    exact ⟨r, h', rfl, e2.val, e3⟩
end GPA
