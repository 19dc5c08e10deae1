/-! THE PURE PART: the reference's variance; its figures of rows -/
theorem fo_congr {g g' : UInt64 → UInt64 → UInt64} : ∀ (t : List UInt64) (a : UInt64), (∀ b x, x ∈ t → g b x = g' b x) → fo g a t = fo g' a t
  | [], _, _ => rfl
  | x :: r, a, H => by
    unfold fo
    rw [H a x (List.mem_cons_self ..), fo_congr r _ fun b y hy => H b y (List.mem_cons_of_mem _ hy)]
section MVA
variable {h : gk_H} {S S0 S1 : gv_S} {x m : UInt64} {row : List UInt64} {less : Bool}
theorem mva_5 (ok : okR row) (hl : row.length ≤ 128) : ∀ (t p : List UInt64) (fu : Nat) (x : UInt64), row = p ++ t → t.length + 1 < fu → fd_f x → S.1 30 11 = gI 0 → mR S row → fd_n (fo FP.dadd x t) ∧ ((fin (fo FP.dadd x t) ∧ f_M_variance_b5 fu (some 30) (gB less) x (gI p.length) (gv_ov h S) = f_M_variance_b41 (some 30) (gB less) (fo FP.dadd x t) (gv_ov h S)) ∨ (¬ fin (fo FP.dadd x t) ∧ ∃ T, f_M_variance_b5 fu (some 30) (gB less) x (gI p.length) (gv_ov h S) = some (0, gv_ov h T) ∧ mX mB S T ∧ T.1 30 11 = gI 6)) := by
  intro t
  induction t with
  | nil =>
    intro p fu x e hfu hx hb hr
    obtain ⟨fu, rfl⟩ : ∃ f, fu = f + 1 := ⟨fu - 1, by omega⟩
    have hlp : row.length = p.length := by rw [e]; simp
    rw [f_M_variance_b5]
    dsimp only
    rw [gg_30_12, hr.len, ite_le _ _ _ _ (by omega) (by omega), if_pos (by omega)]
    exact ⟨hx.n, Or.inl ⟨(fin_f hx.n).mpr hx, rfl⟩⟩
  | cons c t ih =>
    intro p fu x e hfu hx hb hr
    rw [List.length_cons] at hfu
    obtain ⟨fu, rfl⟩ : ∃ f, fu = f + 1 := ⟨fu - 1, by omega⟩
    have hlp : row.length = p.length + (t.length + 1) := by rw [e]; simp
    have hc : row.getD p.length 0 = c := by rw [e]; exact getD_mid p t c
    obtain ⟨cf, cc⟩ := ok c (by rw [e]; simp)
    have hxf := (fin_f hx.n).mpr hx
    have ha := fd_add_n hx cf
    rw [f_M_variance_b5]
    dsimp only
    rw [gg_30_12, hr.len, ite_le _ _ _ _ (by omega) (by omega), if_neg (by omega), gg_30_11, hb, ite0 0 (by decide), if_pos rfl, gr_30_13, ga_39 (by omega), hr.at (by omega), hc, fo_cons _ _ _ _ hxf, fd_dop ha, gc_30]
    by_cases z : fin (FP.dadd x c)
    · have := ih (p ++ [c]) fu _ (by rw [List.append_assoc]; exact e) (by omega) ((fin_f ha).mp z) hb hr
      rw [List.length_append, List.length_singleton] at this
      rw [m_stepF ha z, gk_ca_some, gk_let_eq, show gI p.length + (1 : Int32) = gI (p.length + 1) from gI_add _ 1]
      exact this
    · have hr' : (gv_uI S 30 11 (gI 6)).1 30 12 = gI row.length := by
        rw [gu_I1 _ _ _ _ _ _ (by omega)]
        exact hr.len
      rw [m_stepI ha z hb, gk_ca_some, gk_let_eq, show gI p.length + (1 : Int32) = gI (p.length + 1) from gI_add _ 1, fo_stop _ _ _ z]
      refine ⟨ha, Or.inr ⟨z, _, ?_, mX.I _ ⟨rfl, rfl⟩, gu11 6⟩⟩
      have b41 : f_M_variance_b41 (some 30) (gB less) 0 (gv_ov h (gv_uI S 30 11 (gI 6))) = some (0, gv_ov h (gv_uI S 30 11 (gI 6))) := by
        unfold f_M_variance_b41
        rw [gg_30_11, gu11, bad_gt 6 (by decide) (by decide)]
      obtain ⟨fu, rfl⟩ : ∃ f, fu = f + 1 := ⟨fu - 1, by omega⟩
      rw [f_M_variance_b5]
      dsimp only
      rw [gg_30_12, hr', ite_le _ _ _ _ (by omega) (by omega)]
      by_cases w2 : row.length ≤ p.length + 1
      · rw [if_pos w2]
        exact b41
      · rw [if_neg w2, gg_30_11, gu11, ite0 6 (by decide), if_neg (by decide)]
        exact b41
/-- a failed loop's end -/
theorem mva_132e (hr : S.1 30 12 = gI row.length) (hl : row.length ≤ 128) (hb : S.1 30 11 = gI 6) (fu p : Nat) (hp : p ≤ 129) (m x : UInt64) : f_M_variance_b77 (fu + 1) (some 30) (gB less) m x (gI p) (gv_ov h S) = some (0, gv_ov h S) := by
  have b132 : f_M_variance_b132 (some 30) (gB less) x (gv_ov h S) = some (0, gv_ov h S) := by
    unfold f_M_variance_b132 f_M_variance_b168
    rw [gg_30_11, hb, bad_gt 6 (by decide) (by decide)]
  rw [f_M_variance_b77]
  dsimp only
  rw [gg_30_12, hr, ite_le _ _ _ _ (by omega) (by omega)]
  by_cases w2 : row.length ≤ p
  · rw [if_pos w2]
    exact b132
  · rw [if_neg w2, gg_30_11, hb, ite0 6 (by decide), if_neg (by decide)]
    exact b132
theorem mva_77 (ok : okR row) (hl : row.length ≤ 128) (hm : fd_f m) : ∀ (t p : List UInt64) (fu : Nat) (x : UInt64), row = p ++ t → t.length + 1 < fu → fd_f x → S.1 30 11 = gI 0 → mR S row → fd_n (fo (s_sqm m) x t) ∧ ((fin (fo (s_sqm m) x t) ∧ f_M_variance_b77 fu (some 30) (gB less) m x (gI p.length) (gv_ov h S) = f_M_variance_b132 (some 30) (gB less) (fo (s_sqm m) x t) (gv_ov h S)) ∨ (¬ fin (fo (s_sqm m) x t) ∧ ∃ T, f_M_variance_b77 fu (some 30) (gB less) m x (gI p.length) (gv_ov h S) = some (0, gv_ov h T) ∧ mX mB S T ∧ T.1 30 11 = gI 6)) := by
  intro t
  induction t with
  | nil =>
    intro p fu x e hfu hx hb hr
    obtain ⟨fu, rfl⟩ : ∃ f, fu = f + 1 := ⟨fu - 1, by omega⟩
    have hlp : row.length = p.length := by rw [e]; simp
    rw [f_M_variance_b77]
    dsimp only
    rw [gg_30_12, hr.len, ite_le _ _ _ _ (by omega) (by omega), if_pos (by omega)]
    exact ⟨hx.n, Or.inl ⟨(fin_f hx.n).mpr hx, rfl⟩⟩
  | cons c t ih =>
    intro p fu x e hfu hx hb hr
    rw [List.length_cons] at hfu
    obtain ⟨fu, rfl⟩ : ∃ f, fu = f + 1 + 1 := ⟨fu - 2, by omega⟩
    have hlp : row.length = p.length + (t.length + 1) := by rw [e]; simp
    have hc : row.getD p.length 0 = c := by rw [e]; exact getD_mid p t c
    obtain ⟨cf, cc⟩ := ok c (by rw [e]; simp)
    have hxf := (fin_f hx.n).mpr hx
    have hs := fd_sub_n cf hm
    have hw : fd_n (s_sqm m x c) := s_sqm_n hm x c hx cf
    have i1 : gI p.length + (1 : Int32) = gI (p.length + 1) := gI_add _ 1
    have hrT : ∀ T, mX mB S T → T.1 30 12 = gI row.length := fun T q => by
      rw [q.i (fun w => by unfold mB at w; omega)]
      exact hr.len
    rw [f_M_variance_b77]
    dsimp only
    rw [gg_30_12, hr.len, ite_le _ _ _ _ (by omega) (by omega), if_neg (by omega), gg_30_11, hb, ite0 0 (by decide), if_pos rfl, gr_30_13, ga_39 (by omega), hr.at (by omega), hc, fo_cons _ _ _ _ hxf, fd_dop hs, gc_30]
    unfold f_M_variance_b126
    by_cases z : fin (FP.dsub c m)
    · obtain ⟨q1, q2⟩ := mSp.sq (h := h) (v := FP.dsub c m) hx ((fin_f hs).mp z) hb
      have ew : FP.dadd x (FP.dmul (FP.dsub c m) (FP.dsub c m)) = s_sqm m x c := rfl
      rw [ew] at q1 q2
      rw [m_stepF hs z, gk_ca_some, gg_30_11, hb, ite0 0 (by decide), if_pos rfl, gc_30]
      rcases q2 with ⟨w, ey⟩ | ⟨w, v, T, ey, r1, r2, r3⟩
      · have := ih (p ++ [c]) (fu + 1) _ (by rw [List.append_assoc]; exact e) (by omega) ((fin_f hw).mp w) hb hr
        rw [List.length_append, List.length_singleton] at this
        rw [ey, gk_ca_some, gk_let_eq, i1]
        exact this
      · rw [ey, gk_ca_some, gk_let_eq, i1, fo_stop _ _ _ w]
        exact ⟨hw, Or.inr ⟨w, T, mva_132e (hrT T r1) hl r2 _ _ (by omega) _ _, r1, r2⟩⟩
    · obtain ⟨j1, j2⟩ := fd_inf_sq hs (fin_nf hs z)
      obtain ⟨k1, k2⟩ := fd_inf_add hx j1 j2
      have w : ¬ fin (s_sqm m x c) := nf_fin hw k2
      have hX : mX mB S (gv_uI S 30 11 (gI 6)) := mX.I _ ⟨rfl, rfl⟩
      rw [m_stepI hs z hb, gk_ca_some, gg_30_11, gu11, ite0 6 (by decide), if_neg (by decide), gk_let_eq, i1, fo_stop _ _ _ w]
      exact ⟨hw, Or.inr ⟨w, _, mva_132e (hrT _ hX) hl (gu11 6) _ _ (by omega) _ _, hX, gu11 6⟩⟩
theorem mo_variance (ok : okR row) (hl : row.length ≤ 128) (hb : S.1 30 11 = gI 0) (hr : mR S row) : mNv h S (f_M_variance (some 30) (gB less) (gv_ov h S)) (sp_var row ((row.length : Int) - (if less = true then 1 else 0))) := by
  have h5 := mva_5 (h := h) (less := less) ok hl row [] gk_F 0 rfl (by unfold gk_F; omega) fd_f0 hb hr
  unfold f_M_variance
  have h5' : fd_n (s_sum row) ∧ ((fin (s_sum row) ∧ f_M_variance_b5 gk_F (some 30) (gB less) 0 (0 : Int32) (gv_ov h S) = f_M_variance_b41 (some 30) (gB less) (s_sum row) (gv_ov h S)) ∨ (¬ fin (s_sum row) ∧ ∃ T, f_M_variance_b5 gk_F (some 30) (gB less) 0 (0 : Int32) (gv_ov h S) = some (0, gv_ov h T) ∧ mX mB S T ∧ T.1 30 11 = gI 6)) := h5
  clear h5
  obtain ⟨s1, s2⟩ := h5'
  unfold sp_var
  rcases s2 with ⟨z, e⟩ | ⟨z, T, e, t1, t2⟩
  · have sf := (fin_f s1).mp z
    rw [e]
    unfold f_M_variance_b41
    rw [gg_30_11, hb, itl0 0 (by decide), if_pos rfl, gg_30_12, hr.len, gc_30]
    rcases m_divC (h := h) sf (fd_i2df (gI row.length)) hb with ⟨y, d⟩ | ⟨y, hd, w, d⟩ | ⟨y, hd, w, d⟩
    · have hz : row.length = 0 := by
        by_cases q : row.length = 0
        · exact q
        · exact absurd y (fd_i2nz (by omega) (by omega)).2
      have ea : sp_avg row = gc_e 2 := if_pos hz
      rw [d, gk_ca_some, gg_30_11, gu11, bad_gt 2 (by decide) (by decide), ea, if_pos (show (gc_e 2).1 = 4 from rfl)]
      exact mNv.fl 2 fd_0_n (by decide) (by decide)
    · have hz : row.length ≠ 0 := fun q => y (by rw [q]; decide +kernel)
      have hmf := (fin_f hd).mp w
      have ea : sp_avg row = gc_n (FP.ddiv (s_sum row) (FP.i2d (gI row.length))) := by
        unfold sp_avg
        rw [if_neg hz, gc_num_f w]
      have em : (gc_n (FP.ddiv (s_sum row) (FP.i2d (gI row.length)))).2.2.1 = fd_c (FP.ddiv (s_sum row) (FP.i2d (gI row.length))) := rfl
      have e1 : ¬ (gc_n (FP.ddiv (s_sum row) (FP.i2d (gI row.length)))).1 = 4 := by
        show ¬ (1 = 4)
        decide
      have eq : s_sq (fd_c (FP.ddiv (s_sum row) (FP.i2d (gI row.length)))) row = fo (s_sqm (FP.ddiv (s_sum row) (FP.i2d (gI row.length)))) 0 row := by
        refine (fo_congr row 0 fun b x hx => ?_).symm
        unfold s_sqm
        rw [fd_sub_c (ok x hx).1 (ok x hx).2 hd]
      obtain ⟨v1, v2⟩ := mva_77 (h := h) (less := less) ok hl hmf row [] gk_F 0 rfl (by unfold gk_F; omega) fd_f0 hb hr
      rw [d, gk_ca_some, gg_30_11, hb, itl0 0 (by decide), if_pos rfl, ea, if_neg e1, em, eq]
      revert v1 v2
      generalize fo (s_sqm (FP.ddiv (s_sum row) (FP.i2d (gI row.length)))) 0 row = Q
      intro v1 v2
      rcases v2 with ⟨z2, e2⟩ | ⟨z2, T, e2, t1, t2⟩
      · have e2' : f_M_variance_b77 gk_F (some 30) (gB less) (FP.ddiv (s_sum row) (FP.i2d (gI row.length))) 0 (0 : Int32) (gv_ov h S) = _ := e2
        have hQ := (fin_f v1).mp z2
        rw [e2', if_pos z2]
        unfold f_M_variance_b132
        have dv : ∀ k : Nat, (k : Int) = (row.length : Int) - (if less = true then 1 else 0) → k ≤ 128 → mNv h S (f_M_variance_b165 (some 30) Q (FP.i2d (gI k)) (gv_ov h S)) (if (row.length : Int) - (if less = true then 1 else 0) ≤ 0 then gc_e 2 else gc_num (FP.ddiv Q (FP.i2d (gN ((row.length : Int) - (if less = true then 1 else 0)))))) := fun k hk hk2 => by
          unfold f_M_variance_b165 f_M_variance_b168
          rw [← hk, gc_30, ← gI_N]
          obtain ⟨S', v, p1, p2, p3⟩ := mNv.div (h := h) hQ (fd_i2df (gI k)) hb
          rw [p1, gk_ca_some]
          have ez : (fd_k (FP.i2d (gI k)) = 0) = ((k : Int) ≤ 0) := by
            by_cases q : k = 0
            · rw [q]
              exact propext ⟨fun _ => by decide, fun _ => by decide +kernel⟩
            · exact propext ⟨fun y => absurd y (fd_i2nz (by omega) (by omega)).2, fun y => by omega⟩
          simp only [ez] at p3
          exact ⟨S', v, rfl, p2, p3⟩
        rw [gg_30_11, hb, itl0 0 (by decide), if_pos rfl, ite_B]
        cases less
        · rw [if_neg (by decide), gg_30_12, hr.len]
          exact dv row.length (by rw [if_neg (by decide)]; omega) hl
        · rw [if_pos rfl, gg_30_12, hr.len, show gI row.length - (1 : Int32) = gI (row.length - 1) from gI_sub _ 1 (by omega)]
          exact dv (row.length - 1) (by rw [if_pos rfl]; omega) (by omega)
      · have e2' : f_M_variance_b77 gk_F (some 30) (gB less) (FP.ddiv (s_sum row) (FP.i2d (gI row.length))) 0 (0 : Int32) (gv_ov h S) = _ := e2
        rw [e2', if_neg z2]
        exact ⟨T, 0, rfl, t1, mp_err rfl (by decide) (by decide) fd_0_n t2⟩
    · have hz : row.length ≠ 0 := fun q => y (by rw [q]; decide +kernel)
      have ea : sp_avg row = gc_e 6 := by
        unfold sp_avg
        rw [if_neg hz, gc_num_i w]
      rw [d, gk_ca_some, gg_30_11, gu11, bad_gt 6 (by decide) (by decide), ea, if_pos (show (gc_e 6).1 = 4 from rfl)]
      exact mNv.fl 6 fd_0_n (by decide) (by decide)
  · have hz : row.length ≠ 0 := fun q => by
      have : row = [] := List.length_eq_zero_iff.mp q
      rw [this] at z
      exact z ((fin_f fd_0_n).mpr fd_f0)
    obtain ⟨n1, n2⟩ := fd_i2nz (j := row.length) (by omega) (by omega)
    obtain ⟨i1, i2⟩ := fd_inf_div s1 (fin_nf s1 z) n1 n2
    have ea : sp_avg row = gc_e 6 := by
      unfold sp_avg
      rw [if_neg hz, gc_num_i (nf_fin i1 i2)]
    rw [e, ea, if_pos (show (gc_e 6).1 = 4 from rfl)]
    exact ⟨T, 0, rfl, t1, mp_err rfl (by decide) (by decide) fd_0_n t2⟩
theorem isR.avg (row : List UInt64) : isR (sp_avg row) := by
  unfold sp_avg
  split
  · exact isR.e (by decide) (by decide)
  · exact isR.num _
theorem isR.med (row : List UInt64) : isR (sp_med row) := by
  unfold sp_med
  repeat' split
  all_goals first | exact isR.num _ | exact isR.n _ | exact isR.e (by decide) (by decide)
theorem isR.var (row : List UInt64) (d : Int) : isR (sp_var row d) := by
  unfold sp_var
  split
  · exact isR.avg row
  · repeat' split
    all_goals first | exact isR.num _ | exact isR.n _ | exact isR.e (by decide) (by decide)
theorem isR.fig (f : Nat) (row : List UInt64) : isR (sp_fig f row) := by
  unfold sp_fig
  repeat' split
  all_goals first | exact isR.num _ | exact isR.n _ | exact isR.avg _ | exact isR.med _ | exact isR.var _ _
end MVA
