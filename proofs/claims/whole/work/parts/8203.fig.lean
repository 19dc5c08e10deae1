/-! THE PURE PART: figures of a row (class) -/
/-- reckoned on until a step is not finite -/
def fo (g : UInt64 → UInt64 → UInt64) : UInt64 → List UInt64 → UInt64
  | a, [] => a
  | a, x :: r => if -9218868437227405311 ≤ fd_k a ∧ fd_k a ≤ 9218868437227405311 then fo g (g a x) r else a
def s_sum (row : List UInt64) : UInt64 := fo FP.dadd 0 row
def s_pro (row : List UInt64) : UInt64 := fo FP.dmul (if row = [] then 0 else 0x3ff0000000000000) row
def s_sqm (m : UInt64) (s x : UInt64) : UInt64 := FP.dadd s (FP.dmul (FP.dsub x m) (FP.dsub x m))
def s_sq (m : UInt64) (row : List UInt64) : UInt64 := fo (s_sqm m) 0 row
def s_ext (gr : Bool) : UInt64 → List UInt64 → UInt64
  | a, [] => a
  | a, x :: r => if (if gr = true then fd_k a < fd_k x else fd_k x < fd_k a) then s_ext gr x r else s_ext gr a r
theorem fd_sq_n {d : UInt64} (h : fd_n d) : fd_n (FP.dmul d d) := by
  refine (FP.Core.notNaN_iff _).mp (Bool.eq_false_iff.mpr fun z => ?_)
  rcases (FP.Core.dmul_nan_iff d d).mp z with w | w | ⟨w, w1, w2⟩ | ⟨w, w1, w2⟩
  · exact h w
  · exact h w
  · obtain ⟨t, q, e⟩ := w2
    rw [w1] at e
    cases e
  · obtain ⟨t, q, e⟩ := w1
    rw [w2] at e
    cases e
theorem fd_add_n2 {a b : UInt64} (ha : fd_f a) (hb : fd_n b) : fd_n (FP.dadd a b) := by
  have : FP.dadd a b = FP.dadd b a := FP.Core.dadd_comm a b
  rw [this]
  exact fd_add_n' hb ha
def okR (row : List UInt64) : Prop := ∀ x ∈ row, fd_f x ∧ fd_c x = x
theorem okR.sc {cs : Nat → gp_C} : ∀ n, (∀ k, k < n → gp_okC (cs k)) → okR (sc_row cs n)
  | 0, _, x, hx => absurd hx List.not_mem_nil
  | n + 1, h, x, hx => by
    unfold sc_row at hx
    rcases List.mem_append.mp hx with q | q
    · exact okR.sc n (fun k hk => h k (by omega)) x q
    · split at q
      · rw [List.mem_singleton.mp q]
        exact ⟨(h n (by omega)).2.1, (h n (by omega)).2.2.1⟩
      · exact absurd q List.not_mem_nil
theorem okR.sg {vs : Nat → gp_V} : ∀ n, (∀ k, k < n → gp_okV (vs k)) → okR (sg_row vs n)
  | 0, _, x, hx => absurd hx List.not_mem_nil
  | n + 1, h, x, hx => by
    unfold sg_row at hx
    rcases List.mem_append.mp hx with q | q
    · exact okR.sg n (fun k hk => h k (by omega)) x q
    · split at q
      · exact okR.sc _ (fun k hk => (h n (by omega)).2.2.2.1 k hk) x q
      · rw [List.mem_singleton.mp q]
        exact sp_num_f (sp_1_ok (h n (by omega)))
theorem okR.sr {row : List UInt64} (h : okR row) : okR (sr row) := fun x hx => h x (sr_mem hx)
theorem okR.get {row : List UInt64} (h : okR row) (k : Nat) : fd_f (row.getD k 0) ∧ fd_c (row.getD k 0) = row.getD k 0 := by
  rw [List.getD_eq_getElem?_getD]
  cases e : row[k]? with
  | none => exact ⟨fd_f0, rfl⟩
  | some x => exact h x (List.mem_of_getElem? e)
theorem fo_n (g : UInt64 → UInt64 → UInt64) (hg : ∀ a x, fd_f a → fd_f x → fd_n (g a x)) : ∀ (r : List UInt64) (a : UInt64), fd_n a → (∀ x ∈ r, fd_f x) → fd_n (fo g a r)
  | [], a, h, _ => h
  | x :: r, a, h, hr => by
    unfold fo
    split
    · rename_i q
      exact fo_n g hg r _ (hg a x ((fin_f h).mp q) (hr x List.mem_cons_self)) fun y hy => hr y (List.mem_cons_of_mem _ hy)
    · exact h
theorem s_sqm_n {m : UInt64} (hm : fd_f m) : ∀ a x, fd_f a → fd_f x → fd_n (s_sqm m a x) := fun a x ha hx => fd_add_n2 ha (fd_sq_n (fd_sub_n hx hm))
theorem s_sum_n {row : List UInt64} (h : okR row) : fd_n (s_sum row) := fo_n _ (fun a x ha hx => fd_add_n ha hx) row 0 fd_0_n fun x hx => (h x hx).1
theorem s_pro_n {row : List UInt64} (h : okR row) : fd_n (s_pro row) := fo_n _ (fun a x ha hx => fd_mul_n ha hx) row _ (by split; exact fd_0_n; exact fd_1_f.n) fun x hx => (h x hx).1
theorem s_sq_n {m : UInt64} (hm : fd_f m) {row : List UInt64} (h : okR row) : fd_n (s_sq m row) := fo_n _ (s_sqm_n hm) row 0 fd_0_n fun x hx => (h x hx).1
theorem s_ext_f (gr : Bool) : ∀ (r : List UInt64) (a : UInt64), fd_f a → (∀ x ∈ r, fd_f x) → fd_f (s_ext gr a r)
  | [], a, h, _ => h
  | x :: r, a, h, hr => by
    unfold s_ext
    by_cases z : (if gr = true then fd_k a < fd_k x else fd_k x < fd_k a)
    · rw [if_pos z]
      exact s_ext_f gr r x (hr x List.mem_cons_self) fun y hy => hr y (List.mem_cons_of_mem _ hy)
    · rw [if_neg z]
      exact s_ext_f gr r a h fun y hy => hr y (List.mem_cons_of_mem _ hy)
def sp_avg (row : List UInt64) : gp_C := if row.length = 0 then gc_e 2 else gc_num (FP.ddiv (s_sum row) (FP.i2d (gI row.length)))
def sp_med (row : List UInt64) : gp_C := if row.length = 0 then gc_e 6 else if row.length % 2 = 1 then gc_n ((sr row).getD (row.length / 2) 0) else gc_num (FP.ddiv (FP.dadd ((sr row).getD (row.length / 2 - 1) 0) ((sr row).getD (row.length / 2) 0)) 0x4000000000000000)
def sp_var (row : List UInt64) (d : Int) : gp_C := if (sp_avg row).1 = 4 then sp_avg row else if -9218868437227405311 ≤ fd_k (s_sq (sp_avg row).2.2.1 row) ∧ fd_k (s_sq (sp_avg row).2.2.1 row) ≤ 9218868437227405311 then (if d ≤ 0 then gc_e 2 else gc_num (FP.ddiv (s_sq (sp_avg row).2.2.1 row) (FP.i2d (gN d)))) else gc_e 6
def sp_fig (f : Nat) (row : List UInt64) : gp_C :=
  if f = 0 then gc_num (s_sum row)
  else if f = 1 then gc_num (s_pro row)
  else if f = 2 then gc_num (s_sq 0 row)
  else if f = 3 then sp_avg row
  else if f = 4 then gc_n (s_ext false (row.getD 0 0) (row.drop 1))
  else if f = 5 then gc_n (s_ext true (row.getD 0 0) (row.drop 1))
  else if f = 9 then sp_med row
  else if f = 13 then sp_var row row.length
  else sp_var row ((row.length : Int) - 1)
section FIG
variable {b : Nat} {h : gk_H} {S : gv_S} {f : Nat} {row : List UInt64}
theorem a_ofRow' (k : Nat) (hk : k < 2147483648) (hr : row.length ≤ 128) : f_Ar_ofRow (some 20) (gI k) (gv_ov h (gA S f row)) = some (row.getD k 0, gv_ov h (gA S f row)) := (a_ofRow k hr).resolve_right (by omega)
theorem getD_mid (p t : List UInt64) (x : UInt64) : (p ++ x :: t).getD p.length 0 = x := by
  simp [List.getD_eq_getElem?_getD]
theorem g_sum (hr : row.length ≤ 128) (ok : okR row) : ∀ (t p : List UInt64) (fu : Nat) (s : UInt64), row = p ++ t → t.length < fu → fd_n s → f_Su_sum_b4 fu (some 20) s (gI p.length) (gv_ov h (gA S f row)) = some (fo FP.dadd s t, gv_ov h (gA S f row)) := by
  intro t
  induction t with
  | nil =>
    intro p fu s e hf hs
    obtain ⟨fu, rfl⟩ : ∃ f, fu = f + 1 := ⟨fu - 1, by omega⟩
    have hl : row.length = p.length := by rw [e]; simp
    rw [f_Su_sum_b4]
    dsimp only
    rw [gc_20, a_inRow, gk_ca_some, ite_le _ _ _ _ (by omega) (by omega), if_pos (by omega)]
    rfl
  | cons x t ih =>
    intro p fu s e hf hs
    obtain ⟨fu, rfl⟩ : ∃ f, fu = f + 1 := ⟨fu - 1, by omega⟩
    rw [List.length_cons] at hf
    have hl : row.length = p.length + (t.length + 1) := by rw [e]; simp
    have hx := ok x (by rw [e]; simp)
    have hg : row.getD p.length 0 = x := by rw [e]; exact getD_mid p t x
    rw [f_Su_sum_b4]
    dsimp only
    rw [gc_20, a_inRow, gk_ca_some, ite_le _ _ _ _ (by omega) (by omega), if_neg (by omega), v_fin hs, gk_ca_some]
    unfold fo
    by_cases z : fin s
    · have hn := fd_add_n ((fin_f hs).mp z) hx.1
      rw [if_pos z, if_neg (by decide), if_pos z, gc_20, a_ofRow' _ (by omega) hr, gk_ca_some, hg, fd_dop hn, gk_let_eq, gI_1, gI_add]
      have := ih (p ++ [x]) fu (FP.dadd s x) (by rw [e]; simp) (by omega) hn
      rw [List.length_append, List.length_singleton] at this
      exact this
    · rw [if_neg z, if_pos rfl, if_neg z]
      rfl
theorem g_pro (hr : row.length ≤ 128) (ok : okR row) : ∀ (t p : List UInt64) (fu : Nat) (s : UInt64), row = p ++ t → t.length < fu → fd_n s → f_Su_product_b15 fu (some 20) s (gI p.length) (gv_ov h (gA S f row)) = some (fo FP.dmul s t, gv_ov h (gA S f row)) := by
  intro t
  induction t with
  | nil =>
    intro p fu s e hf hs
    obtain ⟨fu, rfl⟩ : ∃ f, fu = f + 1 := ⟨fu - 1, by omega⟩
    have hl : row.length = p.length := by rw [e]; simp
    rw [f_Su_product_b15]
    dsimp only
    rw [gc_20, a_inRow, gk_ca_some, ite_le _ _ _ _ (by omega) (by omega), if_pos (by omega)]
    rfl
  | cons x t ih =>
    intro p fu s e hf hs
    obtain ⟨fu, rfl⟩ : ∃ f, fu = f + 1 := ⟨fu - 1, by omega⟩
    rw [List.length_cons] at hf
    have hl : row.length = p.length + (t.length + 1) := by rw [e]; simp
    have hx := ok x (by rw [e]; simp)
    have hg : row.getD p.length 0 = x := by rw [e]; exact getD_mid p t x
    rw [f_Su_product_b15]
    dsimp only
    rw [gc_20, a_inRow, gk_ca_some, ite_le _ _ _ _ (by omega) (by omega), if_neg (by omega), v_fin hs, gk_ca_some]
    unfold fo
    by_cases z : fin s
    · have hn := fd_mul_n ((fin_f hs).mp z) hx.1
      rw [if_pos z, if_neg (by decide), if_pos z, gc_20, a_ofRow' _ (by omega) hr, gk_ca_some, hg, fd_dop hn, gk_let_eq, gI_1, gI_add]
      have := ih (p ++ [x]) fu (FP.dmul s x) (by rw [e]; simp) (by omega) hn
      rw [List.length_append, List.length_singleton] at this
      exact this
    · rw [if_neg z, if_pos rfl, if_neg z]
      rfl
theorem g_sq (hr : row.length ≤ 128) (ok : okR row) {m : UInt64} (hm : fd_f m) : ∀ (t p : List UInt64) (fu : Nat) (s : UInt64), row = p ++ t → t.length < fu → fd_n s → f_Su_sumOfSquares_b5 fu (some 20) m s (gI p.length) (gv_ov h (gA S f row)) = some (fo (s_sqm m) s t, gv_ov h (gA S f row)) := by
  intro t
  induction t with
  | nil =>
    intro p fu s e hf hs
    obtain ⟨fu, rfl⟩ : ∃ f, fu = f + 1 := ⟨fu - 1, by omega⟩
    have hl : row.length = p.length := by rw [e]; simp
    rw [f_Su_sumOfSquares_b5]
    dsimp only
    rw [gc_20, a_inRow, gk_ca_some, ite_le _ _ _ _ (by omega) (by omega), if_pos (by omega)]
    rfl
  | cons x t ih =>
    intro p fu s e hf hs
    obtain ⟨fu, rfl⟩ : ∃ f, fu = f + 1 := ⟨fu - 1, by omega⟩
    rw [List.length_cons] at hf
    have hl : row.length = p.length + (t.length + 1) := by rw [e]; simp
    have hx := ok x (by rw [e]; simp)
    have hg : row.getD p.length 0 = x := by rw [e]; exact getD_mid p t x
    rw [f_Su_sumOfSquares_b5]
    dsimp only
    rw [gc_20, a_inRow, gk_ca_some, ite_le _ _ _ _ (by omega) (by omega), if_neg (by omega), v_fin hs, gk_ca_some]
    unfold fo
    by_cases z : fin s
    · have hd := fd_sub_n hx.1 hm
      have hq := fd_sq_n hd
      have hn := fd_add_n2 ((fin_f hs).mp z) hq
      rw [if_pos z, if_neg (by decide), if_pos z, gc_20, a_ofRow' _ (by omega) hr, gk_ca_some, hg, fd_dop hd, fd_dop hq, fd_dop hn, gk_let_eq, gI_1, gI_add]
      have := ih (p ++ [x]) fu (s_sqm m s x) (by rw [e]; simp) (by omega) hn
      rw [List.length_append, List.length_singleton] at this
      exact this
    · rw [if_neg z, if_pos rfl, if_neg z]
      rfl
theorem g_ext (hr : row.length ≤ 128) (ok : okR row) (gr : Bool) : ∀ (t p : List UInt64) (fu : Nat) (s : UInt64), row = p ++ t → t.length < fu → fd_f s → f_Su_extreme_b9 fu (some 20) (gB gr) s (gI p.length) (gv_ov h (gA S f row)) = some (s_ext gr s t, gv_ov h (gA S f row)) := by
  intro t
  induction t with
  | nil =>
    intro p fu s e hf hs
    obtain ⟨fu, rfl⟩ : ∃ f, fu = f + 1 := ⟨fu - 1, by omega⟩
    have hl : row.length = p.length := by rw [e]; simp
    rw [f_Su_extreme_b9]
    dsimp only
    rw [gc_20, a_inRow, gk_ca_some, ite_le _ _ _ _ (by omega) (by omega), if_pos (by omega)]
    rfl
  | cons x t ih =>
    intro p fu s e hf hs
    obtain ⟨fu, rfl⟩ : ∃ f, fu = f + 1 := ⟨fu - 1, by omega⟩
    rw [List.length_cons] at hf
    have hl : row.length = p.length + (t.length + 1) := by rw [e]; simp
    have hx := ok x (by rw [e]; simp)
    have hg : row.getD p.length 0 = x := by rw [e]; exact getD_mid p t x
    have go : ∀ y, fd_f y → f_Su_extreme_b9 fu (some 20) (gB gr) y (gI p.length + (1 : Int32)) (gv_ov h (gA S f row)) = some (s_ext gr y t, gv_ov h (gA S f row)) := by
      intro y hy
      have := ih (p ++ [x]) fu y (by rw [e]; simp) (by omega) hy
      rw [List.length_append, List.length_singleton] at this
      rw [gI_1, gI_add]
      exact this
    rw [f_Su_extreme_b9]
    dsimp only
    unfold f_Su_extreme_b50 f_Su_extreme_b47 f_Su_extreme_b50
    rw [gc_20, a_inRow, gk_ca_some, ite_le _ _ _ _ (by omega) (by omega), if_neg (by omega), gc_20, a_ofRow' _ (by omega) hr, gk_ca_some, hg, ite_B, fi_ge _ _ hx.1.n hs.n, fi_le _ _ hx.1.n hs.n, gk_let_eq, gk_let_eq, go s hs, go x hx.1]
    show _ = some (if (if gr = true then fd_k s < fd_k x else fd_k x < fd_k s) then s_ext gr x t else s_ext gr s t, gv_ov h (gA S f row))
    cases gr
    · rw [if_neg (by decide)]
      by_cases z : fd_k x < fd_k s
      · rw [if_neg (show ¬ fd_k s ≤ fd_k x by omega), if_pos (show (if false = true then fd_k s < fd_k x else fd_k x < fd_k s) from z)]
      · rw [if_pos (show fd_k s ≤ fd_k x by omega), if_neg (show ¬ (if false = true then fd_k s < fd_k x else fd_k x < fd_k s) from z)]
    · rw [if_pos rfl]
      by_cases z : fd_k s < fd_k x
      · rw [if_neg (show ¬ fd_k x ≤ fd_k s by omega), if_pos (show (if true = true then fd_k s < fd_k x else fd_k x < fd_k s) from z)]
      · rw [if_pos (show fd_k x ≤ fd_k s by omega), if_neg (show ¬ (if true = true then fd_k s < fd_k x else fd_k x < fd_k s) from z)]
theorem g_average (hc : gp_cs b h) (hr : row.length ≤ 128) (ok : okR row) : vR b h (gA S f row) (f_Su_average (some 20) (gv_ov h (gA S f row))) (sp_avg row) := by
  unfold f_Su_average sp_avg
  simp only [ca_id]
  rw [gc_20, a_inRow, gk_ca_some, gI_0, ite_eq _ _ _ _ (by omega) (by decide)]
  by_cases z : row.length = 0
  · rw [if_pos z, if_pos z]
    exact vr_err hc 2 (by decide) (by decide)
  · have hsum : f_Su_sum (some 20) (gv_ov h (gA S f row)) = some (s_sum row, gv_ov h (gA S f row)) := g_sum hr ok row [] gk_F 0 rfl (by unfold gk_F; omega) fd_0_n
    obtain ⟨a1, a2⟩ := fd_i2nz (j := row.length) (by omega) (by omega)
    have hn := fd_ddiv (s_sum_n ok) a1 a2
    rw [if_neg z, if_neg z, hsum, gk_ca_some, gc_20, a_inRow, gk_ca_some, fd_dop hn]
    exact vr_num hc hn
theorem fd_2 : fd_f 0x4000000000000000 ∧ fd_k 0x4000000000000000 ≠ 0 := ⟨(fd_pf (by decide)).1, by decide⟩
theorem g_median (hc : gp_cs b h) (hr : row.length ≤ 128) (ok : okR row) : ∃ row', vR b h (gA S f row') (f_Su_median (some 20) (gv_ov h (gA S f row))) (sp_med row) := by
  unfold f_Su_median sp_med
  simp only [ca_id]
  rw [gc_20, a_inRow, gk_ca_some, gI_0, ite_eq _ _ _ _ (by omega) (by decide)]
  by_cases z : row.length = 0
  · rw [if_pos z, if_pos z]
    exact ⟨row, vr_err hc 6 (by decide) (by decide)⟩
  · obtain ⟨d1, d2⟩ := gN_div2 row.length (by omega)
    have hsl := sr_len row
    have oks := ok.sr
    refine ⟨sr row, ?_⟩
    rw [if_neg z, if_neg z, gc_20, a_sort row hr (fun y hy => (ok y hy).1.n), gk_ca_some, gc_20, d1, a_ofRow' _ (by omega) (by rw [hsl]; exact hr), gk_ca_some]
    have d2' : (gI row.length - gI (row.length / 2) * (2 : Int32)) = (1 : Int32) ↔ row.length % 2 = 1 := by rw [← d1]; exact d2
    by_cases e : row.length % 2 = 1
    · rw [if_pos (d2'.mpr e), if_pos e]
      exact vr_n hc (oks.get _).1
    · have hn := fd_add_n (oks.get (row.length / 2 - 1)).1 (oks.get (row.length / 2)).1
      have hn2 := fd_ddiv hn fd_2.1 fd_2.2
      rw [if_neg (fun q => e (d2'.mp q)), if_neg e, gc_20, gI_1, gI_sub _ _ (by omega), a_ofRow' _ (by omega) (by rw [hsl]; exact hr), gk_ca_some, fd_dop hn, fd_dop hn2]
      exact vr_num hc hn2
theorem sp_avg_k (row : List UInt64) (ok : okR row) : gp_okC (sp_avg row) := by
  unfold sp_avg
  split
  · exact gp_oke (by decide) (by decide)
  · rename_i z
    by_cases hl : row.length < 2147483648
    · obtain ⟨a1, a2⟩ := fd_i2nz (j := row.length) (by omega) hl
      exact gp_oknum (fd_ddiv (s_sum_n ok) a1 a2)
    · unfold gc_num
      split
      · rename_i q
        by_cases hn : fd_n (FP.ddiv (s_sum row) (FP.i2d (gI row.length)))
        · exact gp_okn ((fd_f_k hn).mpr q)
        · exfalso
          have hb : ¬ (FP.ddiv (s_sum row) (FP.i2d (gI row.length))).toNat % 2 ^ 63 ≤ 9218868437227405312 := fun w => hn ((FP.Core.ne_nan _).mpr w)
          have := (FP.ddiv (s_sum row) (FP.i2d (gI row.length))).toNat_lt
          unfold fd_k FP.Core.dkey at q
          split at q <;> omega
      · exact gp_oke (by decide) (by decide)
theorem g_variance (hc : gp_cs b h) (hr : row.length ≤ 128) (ok : okR row) (d : Int) (hd : -1 ≤ d) (hd2 : d ≤ 128) : ∃ r h', f_Su_variance (some 20) (gN d) (gv_ov h (gA S f row)) = some (some r, gv_ov h' (gA S f row)) ∧ gp_cell b h' r (sp_var row d) ∧ gp_ext 2 14 h h' := by
  obtain ⟨r, h1, q1, q2, q3⟩ := g_average (S := S) (f := f) hc hr ok
  have hk := sp_avg_k row ok
  have hk4 := hk.1
  have fl := q2.2
  have hc1 := hc.ext q3
  unfold f_Su_variance f_Su_variance_b55 sp_var
  simp only [ca_id]
  rw [q1, gk_ca_some, fl_0 fl, gI_lit 4, ite_eq _ _ _ _ (by omega) (by decide)]
  by_cases z : (sp_avg row).1 = 4
  · rw [if_pos z, if_pos z]
    exact ⟨r, h1, rfl, q2, q3.le (by decide) (by decide)⟩
  · have hsq : f_Su_sumOfSquares (some 20) (sp_avg row).2.2.1 (gv_ov h1 (gA S f row)) = some (s_sq (sp_avg row).2.2.1 row, gv_ov h1 (gA S f row)) := g_sq hr ok hk.2.1 row [] gk_F 0 rfl (by unfold gk_F; omega) fd_0_n
    have hsn := s_sq_n hk.2.1 ok
    have wrap : ∀ {x : Option (Option Nat × gk_H)} {c : gp_C}, vR b h1 (gA S f row) x c → ∃ r h', x = some (some r, gv_ov h' (gA S f row)) ∧ gp_cell b h' r c ∧ gp_ext 2 14 h h' := fun ⟨r, h', w1, w2, w3⟩ => ⟨r, h', w1, w2, q3.trans w3⟩
    rw [if_neg z, if_neg z, fl_2 fl, hsq, gk_ca_some, v_fin hsn, gk_ca_some]
    by_cases f1 : fin (s_sq (sp_avg row).2.2.1 row)
    · rw [if_pos f1, if_neg (by decide), if_pos f1, gN_0, nte_le _ _ _ _ (by omega) (by omega) (by decide) (by decide)]
      by_cases d0 : d ≤ 0
      · rw [if_pos d0, if_pos d0]
        exact wrap (vr_err hc1 2 (by decide) (by decide))
      · have e1 : gN d = gI d.toNat := by rw [gI_N]; congr 1; omega
        obtain ⟨a1, a2⟩ := fd_i2nz (j := d.toNat) (by omega) (by omega)
        rw [← e1] at a1 a2
        have hn := fd_ddiv hsn a1 a2
        rw [if_neg d0, if_neg d0, fd_dop hn]
        exact wrap (vr_num hc1 hn)
    · rw [if_neg f1, if_pos rfl, if_neg f1]
      exact wrap (vr_err hc1 6 (by decide) (by decide))
theorem g_ofRow (hc : gp_cs b h) (hr : row.length ≤ 128) (ok : okR row) (g : Nat) (hg : g = 0 ∨ g = 1 ∨ g = 2 ∨ g = 3 ∨ g = 4 ∨ g = 5 ∨ g = 9 ∨ g = 13 ∨ g = 14) : ∃ r h' row', f_Su_ofRow (gI g) (some 20) (gv_ov h (gA S f row)) = some (some r, gv_ov h' (gA S f row')) ∧ gp_cell b h' r (sp_fig g row) ∧ gp_ext 2 14 h h' := by
  have wrap : ∀ {x : Option (Option Nat × gk_H)} {c : gp_C} {row' : List UInt64}, vR b h (gA S f row') x c → ∃ r h' row', x = some (some r, gv_ov h' (gA S f row')) ∧ gp_cell b h' r c ∧ gp_ext 2 14 h h' := fun {_ _ row'} ⟨r, h', w1, w2, w3⟩ => ⟨r, h', row', w1, w2, w3.le (by decide) (by decide)⟩
  have hext : ∀ gr : Bool, f_Su_extreme (some 20) (gB gr) (gv_ov h (gA S f row)) = some (s_ext gr (row.getD 0 0) (row.drop 1), gv_ov h (gA S f row)) := by
    intro gr
    unfold f_Su_extreme
    rw [gc_20, gI_0, a_ofRow' 0 (by decide) hr, gk_ca_some]
    cases e : row with
    | nil =>
      have hF : gk_F = (gk_F - 1) + 1 := rfl
      rw [hF, f_Su_extreme_b9]
      dsimp only
      rw [gc_20, a_inRow, gk_ca_some, gI_1, if_pos (by decide)]
      rfl
    | cons x t =>
      have := g_ext (h := h) (S := S) (f := f) hr ok gr t [x] gk_F x (by rw [e]; rfl) (by rw [e] at hr; rw [List.length_cons] at hr; unfold gk_F; omega) (ok x (by rw [e]; simp)).1
      rw [e] at this
      exact this
  have hexf : ∀ gr : Bool, fd_f (s_ext gr (row.getD 0 0) (row.drop 1)) := fun gr => s_ext_f gr _ _ (ok.get 0).1 fun x hx => (ok x (List.mem_of_mem_drop hx)).1
  unfold f_Su_ofRow f_Su_ofRow_b106 f_Su_ofRow_b117
  simp only [ca_id]
  rcases hg with rfl | rfl | rfl | rfl | rfl | rfl | rfl | rfl | rfl
  · have hsum : f_Su_sum (some 20) (gv_ov h (gA S f row)) = some (s_sum row, gv_ov h (gA S f row)) := g_sum hr ok row [] gk_F 0 rfl (by unfold gk_F; omega) fd_0_n
    rw [if_pos (by decide), hsum, gk_ca_some]
    exact wrap (vr_num hc (s_sum_n ok))
  · have hpro : f_Su_product (some 20) (gv_ov h (gA S f row)) = some (s_pro row, gv_ov h (gA S f row)) := by
      unfold f_Su_product f_Su_product_b12
      rw [gc_20, a_inRow, gk_ca_some, gI_0, ite_eq _ _ _ _ (by omega) (by decide)]
      have e0 : (row.length = 0) ↔ row = [] := List.length_eq_zero_iff
      unfold s_pro
      by_cases z : row = []
      · have := g_pro (h := h) (S := S) (f := f) hr ok row [] gk_F 0 rfl (by unfold gk_F; omega) fd_0_n
        rw [if_pos (e0.mpr z), if_pos z]
        exact this
      · have := g_pro (h := h) (S := S) (f := f) hr ok row [] gk_F 0x3ff0000000000000 rfl (by unfold gk_F; omega) fd_1_f.n
        rw [if_neg (fun q => z (e0.mp q)), if_neg z]
        exact this
    rw [if_neg (by decide), if_pos (by decide), hpro, gk_ca_some]
    exact wrap (vr_num hc (s_pro_n ok))
  · have hsq : f_Su_sumOfSquares (some 20) 0 (gv_ov h (gA S f row)) = some (s_sq 0 row, gv_ov h (gA S f row)) := g_sq hr ok fd_f0 row [] gk_F 0 rfl (by unfold gk_F; omega) fd_0_n
    rw [if_neg (by decide), if_neg (by decide), if_pos (by decide), hsq, gk_ca_some]
    exact wrap (vr_num hc (s_sq_n fd_f0 ok))
  · rw [if_neg (by decide), if_neg (by decide), if_neg (by decide), if_pos (by decide)]
    exact wrap (g_average hc hr ok)
  · have he : f_Su_extreme (some 20) (0 : Int32) (gv_ov h (gA S f row)) = _ := hext false
    rw [if_neg (by decide), if_neg (by decide), if_neg (by decide), if_neg (by decide), if_pos (by decide), if_neg (by decide), he, gk_ca_some]
    exact wrap (vr_n hc (hexf false))
  · have he : f_Su_extreme (some 20) (1 : Int32) (gv_ov h (gA S f row)) = _ := hext true
    rw [if_neg (by decide), if_neg (by decide), if_neg (by decide), if_neg (by decide), if_neg (by decide), if_pos (by decide), if_pos (by decide), he, gk_ca_some]
    exact wrap (vr_n hc (hexf true))
  · obtain ⟨row', w⟩ := g_median (S := S) (f := f) hc hr ok
    rw [if_neg (by decide), if_neg (by decide), if_neg (by decide), if_neg (by decide), if_neg (by decide), if_neg (by decide), if_neg (by decide), if_neg (by decide), if_neg (by decide), if_pos (by decide)]
    exact wrap w
  · obtain ⟨r, h', w1, w2, w3⟩ := g_variance (S := S) (f := f) hc hr ok (row.length : Int) (by omega) (by omega)
    rw [← gI_N] at w1
    rw [if_neg (by decide), if_neg (by decide), if_neg (by decide), if_neg (by decide), if_neg (by decide), if_neg (by decide), if_neg (by decide), if_neg (by decide), if_neg (by decide), if_neg (by decide), if_neg (by decide), if_neg (by decide), if_neg (by decide), if_pos (by decide), gc_20, a_inRow, gk_ca_some]
    exact ⟨r, h', row, w1, w2, w3⟩
  · obtain ⟨r, h', w1, w2, w3⟩ := g_variance (S := S) (f := f) hc hr ok ((row.length : Int) - 1) (by omega) (by omega)
    rw [if_neg (by decide), if_neg (by decide), if_neg (by decide), if_neg (by decide), if_neg (by decide), if_neg (by decide), if_neg (by decide), if_neg (by decide), if_neg (by decide), if_neg (by decide), if_neg (by decide), if_neg (by decide), if_neg (by decide), if_neg (by decide), if_pos (by decide), gc_20, a_inRow, gk_ca_some, show gI row.length - (1 : Int32) = gN ((row.length : Int) - 1) from gI_subN row.length 1]
    exact ⟨r, h', row, w1, w2, w3⟩
end FIG
