/-! THE PURE PART: the reference's figures of a row -/
theorem mR.len {S : gv_S} {row : List UInt64} (a : mR S row) : S.1 30 12 = gI row.length := by
  rw [← a]
  rfl
theorem mR.at {S : gv_S} {row : List UInt64} (a : mR S row) {k : Nat} (hk : k < row.length) : S.2.1 39 k = row.getD k 0 := by
  rw [← a]
  exact gM_row S row k hk
theorem fd_sub0 {x : UInt64} (hx : fd_n x) : FP.dsub x 0 = x := by
  have e : FP.Core.dsub x 0 = FP.Core.dadd x (FP.Core.dneg 0) := FP.Core.dsub_eq x 0
  have e2 : FP.Core.dneg 0 = FP.Core.dzeroNeg := by decide +kernel
  have e3 := FP.Core.dadd_zeroNeg hx
  show FP.Core.dsub x 0 = x
  rw [e, e2, e3]
theorem fd_inf_sq {d : UInt64} (hd : fd_n d) (hi : ¬ fd_f d) : fd_n (FP.dmul d d) ∧ ¬ fd_f (FP.dmul d d) := by
  obtain ⟨s, e⟩ := fd_inf hd hi
  have hv : FP.Core.val64 (FP.dmul d d) = FP.Core.round FP.Core.b64 (FP.Core.exactProduct (FP.Core.val64 d) (FP.Core.val64 d)) := FP.Core.val64_dmul d d
  rw [e] at hv
  exact fd_inf_n (s := s != s) hv
/-- a step's value w: taken, or the error NUMBER -/
def mSp (h : gk_H) (S : gv_S) (y : Option (UInt64 × gk_H)) (w : UInt64) : Prop := fd_n w ∧ ((fin w ∧ y = some (w, gv_ov h S)) ∨ (¬ fin w ∧ ∃ v T, y = some (v, gv_ov h T) ∧ mX mB S T ∧ T.1 30 11 = gI 6 ∧ fd_n v))
section MFI
variable {h : gk_H} {S S0 S1 : gv_S} {x m : UInt64} {row : List UInt64}
theorem mSp.step (hx : fd_n x) (hb : S.1 30 11 = gI 0) : mSp h S (f_M_step (some 30) x (gv_ov h S)) x := by
  refine ⟨hx, ?_⟩
  by_cases z : fin x
  · exact Or.inl ⟨z, m_stepF hx z⟩
  · exact Or.inr ⟨z, 0, _, m_stepI hx z hb, mX.I _ ⟨rfl, rfl⟩, gu11 6, fd_0_n⟩
theorem mSp.sq {v : UInt64} (hx : fd_f x) (hv : fd_f v) (hb : S.1 30 11 = gI 0) : mSp h S (f_M_addSquare (some 30) x v (gv_ov h S)) (FP.dadd x (FP.dmul v v)) := by
  have hm := fd_mul_n hv hv
  have ha := fd_add_n2 hx hm
  unfold f_M_addSquare f_M_addSquare_b28
  rw [fd_dop hm, gc_30]
  by_cases z : fin (FP.dmul v v)
  · obtain ⟨k1, k2⟩ := mSp.step (h := h) ha hb
    rw [m_stepF hm z, gk_ca_some, gg_30_11, hb, itl0 0 (by decide), if_pos rfl, fd_dop ha, gc_30]
    refine ⟨k1, ?_⟩
    rcases k2 with ⟨w, e⟩ | ⟨w, v', T, e, r⟩
    · rw [e, gk_ca_some]
      exact Or.inl ⟨w, rfl⟩
    · rw [e, gk_ca_some]
      exact Or.inr ⟨w, v', T, rfl, r⟩
  · obtain ⟨i1, i2⟩ := fd_inf_add hx hm (fin_nf hm z)
    rw [m_stepI hm z hb, gk_ca_some, gg_30_11, gu11, bad_gt 6 (by decide) (by decide)]
    exact ⟨ha, Or.inr ⟨nf_fin ha i2, 0, _, rfl, mX.I _ ⟨rfl, rfl⟩, gu11 6, fd_0_n⟩⟩
/-- a fold that stops at what isn't finite -/
theorem fo_stop (g : UInt64 → UInt64 → UInt64) : ∀ (t : List UInt64) (a : UInt64), ¬ fin a → fo g a t = a
  | [], _, _ => rfl
  | _ :: _, _, z => if_neg z
theorem fo_cons (g : UInt64 → UInt64 → UInt64) (t : List UInt64) (x a : UInt64) (z : fin a) : fo g a (x :: t) = fo g (g a x) t := if_pos z
def mfg (f : Nat) : UInt64 → UInt64 → UInt64 := if f = 1 then FP.dmul else if f = 2 then s_sqm 0 else FP.dadd
/-- the loop of 0 to 3 -/
theorem mfi_84 (ok : okR row) (hl : row.length ≤ 128) (f : Nat) (hf : f ≤ 3) : ∀ (t p : List UInt64) (fu : Nat) (x : UInt64), row = p ++ t → t.length + 1 < fu → fd_f x → S.1 30 11 = gI 0 → mR S row → fd_n (fo (mfg f) x t) ∧ ((fin (fo (mfg f) x t) ∧ f_M_figures_b84 fu (some 30) (gI f) x (gI p.length) (gv_ov h S) = f_M_figures_b165 (some 30) (gI f) (fo (mfg f) x t) (gv_ov h S)) ∨ (¬ fin (fo (mfg f) x t) ∧ ∃ v T, f_M_figures_b84 fu (some 30) (gI f) x (gI p.length) (gv_ov h S) = f_M_figures_b165 (some 30) (gI f) v (gv_ov h T) ∧ mX mB S T ∧ T.1 30 11 = gI 6 ∧ fd_n v)) := by
  intro t
  induction t with
  | nil =>
    intro p fu x e hfu hx hb hr
    obtain ⟨fu, rfl⟩ : ∃ f, fu = f + 1 := ⟨fu - 1, by omega⟩
    have hlp : row.length = p.length := by rw [e]; simp
    rw [f_M_figures_b84]
    dsimp only
    rw [gg_30_12, hr.len, ite_le _ _ _ _ (by omega) (by omega), if_pos (by omega)]
    exact ⟨hx.n, Or.inl ⟨(fin_f hx.n).mpr hx, rfl⟩⟩
  | cons c t ih =>
    intro p fu x e hfu hx hb hr
    rw [List.length_cons] at hfu
    obtain ⟨fu, rfl⟩ : ∃ f, fu = f + 1 := ⟨fu - 1, by omega⟩
    have hlp : row.length = p.length + (t.length + 1) := by rw [e]; simp
    have hc : row.getD p.length 0 = c := by rw [e]; exact getD_mid p t c
    obtain ⟨cf, cc⟩ := ok c (by rw [e]; simp)
    have q1 : (gI f = (1 : Int32)) = (f = 1) := gI_eq f 1 (by omega) (by decide)
    have q2 : (gI f = (2 : Int32)) = (f = 2) := gI_eq f 2 (by omega) (by decide)
    have hxf := (fin_f hx.n).mpr hx
    rw [f_M_figures_b84]
    dsimp only
    rw [gg_30_12, hr.len, ite_le _ _ _ _ (by omega) (by omega), if_neg (by omega), gg_30_11, hb, ite0 0 (by decide), if_pos rfl, gr_30_13, gr_30_13, gr_30_13, ga_39 (by omega), ga_39 (by omega), ga_39 (by omega), hr.at (by omega), hc, fo_cons _ _ _ _ hxf]
    simp only [q1, q2]
    -- one step
    have step : ∀ (y : Option (UInt64 × gk_H)) (w : UInt64), mSp h S y w → fd_n (fo (mfg f) w t) ∧ ((fin (fo (mfg f) w t) ∧ (gk_cv (gv_ov h S) (some 30) 7 y fun x6 h1 => f_M_figures_b157 (f_M_figures_b84 fu) (some 30) (gI f) (gI p.length) x6 h1) = f_M_figures_b165 (some 30) (gI f) (fo (mfg f) w t) (gv_ov h S)) ∨ (¬ fin (fo (mfg f) w t) ∧ ∃ v T, (gk_cv (gv_ov h S) (some 30) 7 y fun x6 h1 => f_M_figures_b157 (f_M_figures_b84 fu) (some 30) (gI f) (gI p.length) x6 h1) = f_M_figures_b165 (some 30) (gI f) v (gv_ov h T) ∧ mX mB S T ∧ T.1 30 11 = gI 6 ∧ fd_n v)) := by
      intro y w ⟨hn, hy⟩
      unfold f_M_figures_b157
      rcases hy with ⟨z, ey⟩ | ⟨z, v, T, ey, r1, r2, r3⟩
      · have := ih (p ++ [c]) fu w (by rw [List.append_assoc]; exact e) (by omega) ((fin_f hn).mp z) hb hr
        rw [List.length_append, List.length_singleton] at this
        rw [ey, gc_30, gk_ca_some, gk_let_eq, show gI p.length + (1 : Int32) = gI (p.length + 1) from gI_add _ 1]
        exact this
      · rw [ey, gc_30, gk_ca_some, gk_let_eq, show gI p.length + (1 : Int32) = gI (p.length + 1) from gI_add _ 1, fo_stop _ _ _ z]
        refine ⟨hn, Or.inr ⟨z, v, T, ?_, r1, r2, r3⟩⟩
        have hr' : T.1 30 12 = gI row.length := by
          rw [r1.i (fun w => by unfold mB at w; omega)]
          exact hr.len
        obtain ⟨fu, rfl⟩ : ∃ f, fu = f + 1 := ⟨fu - 1, by omega⟩
        rw [f_M_figures_b84]
        dsimp only
        rw [gg_30_12, hr', ite_le _ _ _ _ (by omega) (by omega)]
        by_cases w2 : row.length ≤ p.length + 1
        · rw [if_pos w2]
        · rw [if_neg w2, gg_30_11, r2, ite0 6 (by decide), if_neg (by decide)]
    by_cases z1 : f = 1
    · have eg : mfg f = FP.dmul := if_pos z1
      have hm := fd_mul_n hx cf
      rw [if_pos z1, fd_dop hm]
      have := step _ _ (mSp.step (h := h) hm hb)
      rw [eg] at this ⊢
      exact this
    · by_cases z2 : f = 2
      · have eg : mfg f = s_sqm 0 := by
          unfold mfg
          rw [if_neg z1, if_pos z2]
        have es : s_sqm 0 x c = FP.dadd x (FP.dmul c c) := by
          unfold s_sqm
          rw [fd_sub0 cf.n]
        rw [if_neg z1, if_pos z2]
        have := step _ _ (mSp.sq (h := h) hx cf hb)
        rw [eg] at this ⊢
        rw [es]
        exact this
      · have eg : mfg f = FP.dadd := by
          unfold mfg
          rw [if_neg z1, if_neg z2]
        have ha := fd_add_n hx cf
        rw [if_neg z1, if_neg z2, fd_dop ha]
        have := step _ _ (mSp.step (h := h) ha hb)
        rw [eg] at this ⊢
        exact this
theorem s_ext_0 (a c : UInt64) (t : List UInt64) : s_ext false a (c :: t) = if fd_k c < fd_k a then s_ext false c t else s_ext false a t := by simp [s_ext]
theorem s_ext_1 (a c : UInt64) (t : List UInt64) : s_ext true a (c :: t) = if fd_k a < fd_k c then s_ext true c t else s_ext true a t := by simp [s_ext]
/-- least and greatest -/
theorem mfi_221 (ok : okR row) (hl : row.length ≤ 128) (f : Nat) (hf : f = 4 ∨ f = 5) : ∀ (t p : List UInt64) (fu : Nat) (x : UInt64), row = p ++ t → t.length < fu → fd_f x → mR S row → f_M_figures_b221 fu (some 30) (gI f) x (gI p.length) (gv_ov h S) = f_M_figures_b331 (some 30) (s_ext (decide (f = 5)) x t) (gv_ov h S) := by
  intro t
  induction t with
  | nil =>
    intro p fu x e hfu hx hr
    obtain ⟨fu, rfl⟩ : ∃ f, fu = f + 1 := ⟨fu - 1, by omega⟩
    have hlp : row.length = p.length := by rw [e]; simp
    rw [f_M_figures_b221]
    dsimp only
    rw [gg_30_12, hr.len, ite_le _ _ _ _ (by omega) (by omega), if_pos (by omega)]
    rfl
  | cons c t ih =>
    intro p fu x e hfu hx hr
    rw [List.length_cons] at hfu
    obtain ⟨fu, rfl⟩ : ∃ f, fu = f + 1 := ⟨fu - 1, by omega⟩
    have hlp : row.length = p.length + (t.length + 1) := by rw [e]; simp
    have hc : row.getD p.length 0 = c := by rw [e]; exact getD_mid p t c
    obtain ⟨cf, cc⟩ := ok c (by rw [e]; simp)
    have q4 : (gI f = (4 : Int32)) = (f = 4) := gI_eq f 4 (by omega) (by decide)
    have nx : ∀ w : UInt64, fd_f w → f_M_figures_b288 (f_M_figures_b221 fu) (some 30) (gI f) (gI p.length) w (gv_ov h S) = f_M_figures_b331 (some 30) (s_ext (decide (f = 5)) w t) (gv_ov h S) := fun w hw => by
      have := ih (p ++ [c]) fu w (by rw [List.append_assoc]; exact e) (by omega) hw hr
      rw [List.length_append, List.length_singleton] at this
      unfold f_M_figures_b288
      rw [gk_let_eq, show gI p.length + (1 : Int32) = gI (p.length + 1) from gI_add _ 1]
      exact this
    rw [f_M_figures_b221]
    dsimp only
    rw [gg_30_12, hr.len, ite_le _ _ _ _ (by omega) (by omega), if_neg (by omega)]
    simp only [q4]
    rw [gr_30_13, gr_30_13, gr_30_13, ga_39 (by omega), ga_39 (by omega), ga_39 (by omega), hr.at (by omega), hc, fi_ge _ _ cf.n hx.n, fi_le _ _ cf.n hx.n]
    rcases hf with rfl | rfl
    · rw [if_pos rfl]
      have ed : decide (4 = 5) = false := rfl
      rw [ed] at nx ⊢
      rw [s_ext_0]
      by_cases z : fd_k c < fd_k x
      · rw [if_neg (show ¬ fd_k x ≤ fd_k c by omega), if_pos z]
        exact nx c cf
      · rw [if_pos (show fd_k x ≤ fd_k c by omega), if_neg z]
        exact nx x hx
    · rw [if_neg (show ¬ (5 = 4) by decide)]
      have ed : decide (5 = 5) = true := rfl
      rw [ed] at nx ⊢
      rw [s_ext_1]
      by_cases z : fd_k x < fd_k c
      · rw [if_neg (show ¬ fd_k c ≤ fd_k x by omega), if_pos z]
        exact nx c cf
      · rw [if_pos (show fd_k c ≤ fd_k x by omega), if_neg z]
        exact nx x hx
theorem fd_div2 (hx : fd_f x) : fd_f (FP.ddiv x 0x4000000000000000) := by
  have h1 := (FP.Core.fin_bits x).mp hx
  have h2 := FP.Core.ddiv_mag (a := x) (b := 0x4000000000000000) (K := 2047) (L := 1024) h1 (by decide) (by decide) (by decide) (by decide)
  have h3 : (FP.ddiv x 0x4000000000000000).toNat % 2 ^ 63 < (2047 + (1074 - 52 - 1) - 1024 + 3) * 2 ^ 52 := h2
  exact (FP.Core.fin_bits _).mpr (by omega)
def mRw2 (a b : Nat) : Prop := mB a b ∨ mRw a b
theorem mRw2_st {a b : Nat} (z : mRw2 a b) : mSt a b := by
  unfold mRw2 mB mRw at z
  unfold mSt
  omega
theorem mo_median (ok : okR row) (hl : row.length ≤ 128) (hb : S.1 30 11 = gI 0) (hr : mR S row) : ∃ S' v, f_M_median (some 30) (gv_ov h S) = some (v, gv_ov h S') ∧ mX mRw2 S S' ∧ mV (sp_med row) v S' := by
  unfold f_M_median sp_med
  rw [gg_30_12, hr.len, show (0 : Int32) = gI 0 from rfl, ite_eq _ _ _ _ (by omega) (by decide)]
  by_cases z : row.length = 0
  · rw [if_pos z, if_pos z, gc_30, gI_lit 6, m_fail 0 6 hb (by decide), gk_ca_some, bl_n]
    exact ⟨_, _, rfl, mX.I _ (Or.inl ⟨rfl, rfl⟩), mp_err rfl (by decide) (by decide) fd_0_n (gu11 6)⟩
  · have hs := m_sort (h := h) (S := S) row hl (fun y hy => (ok y hy).1.n)
    have hr2 : mR (gM S (sr row)) (sr row) := gM_mR _ _
    rw [show gM S row = S from hr] at hs
    have hX : mX mRw2 S (gM S (sr row)) := (gM_X _ _).le fun _ _ q => Or.inr q
    have hb2 : (gM S (sr row)).1 30 11 = gI 0 := by
      rw [gM_i _ _ _ _ (by decide)]
      exact hb
    have hln := sr_len row
    have ok2 := okR.sr ok
    obtain ⟨d1, d2⟩ := gN_div2 row.length (by omega)
    rw [if_neg z, if_neg z, gc_30, hs, gk_ca_some, gg_30_12, hr2.len, hln, d1]
    by_cases w : row.length % 2 = 1
    · rw [if_pos (by rw [← d1]; exact d2.mpr w), if_pos w, gr_30_13, gg_30_12, hr2.len, hln, d1, ga_39 (by omega), hr2.at (by omega)]
      exact ⟨_, _, rfl, hX, hb2, (ok2.get _).1.n, fun _ => ⟨rfl, (ok2.get _).1⟩⟩
    · rw [if_neg (by rw [← d1]; exact fun y => w (d2.mp y)), if_neg w, gr_30_13, gg_30_12, hr2.len, hln, d1, show gI (row.length / 2) - (1 : Int32) = gI (row.length / 2 - 1) from gI_sub _ 1 (by omega), ga_39 (by omega), gr_30_13, gg_30_12, hr2.len, hln, d1, ga_39 (by omega), hr2.at (by omega), hr2.at (by omega)]
      have ha := fd_add_n (ok2.get (row.length / 2 - 1)).1 (ok2.get (row.length / 2)).1
      rw [fd_dop ha, gc_30]
      by_cases q : fin (FP.dadd ((sr row).getD (row.length / 2 - 1) 0) ((sr row).getD (row.length / 2) 0))
      · have hf := fd_div2 ((fin_f ha).mp q)
        rw [m_stepF ha q, gk_ca_some, fd_dop hf.n, gc_num_f ((fin_f hf.n).mpr hf)]
        exact ⟨_, _, rfl, hX, hb2, hf.n, fun _ => ⟨rfl, hf⟩⟩
      · obtain ⟨i1, i2⟩ := fd_inf_div ha (fin_nf ha q) fd_2.1 fd_2.2
        have h0 : fd_n (FP.ddiv 0 0x4000000000000000) := fd_ddiv fd_0_n fd_2.1 fd_2.2
        rw [m_stepI ha q hb2, gk_ca_some, fd_dop h0, gc_num_i (nf_fin i1 i2)]
        exact ⟨_, _, rfl, hX.trans (mX.I _ (Or.inl ⟨rfl, rfl⟩)), mp_err rfl (by decide) (by decide) h0 (gu11 6)⟩
/-- a mean of nothing, whatever its sign -/
theorem fd_sub_c (hx : fd_f x) (hcx : fd_c x = x) (hm : fd_n m) : FP.dsub x m = FP.dsub x (fd_c m) := by
  unfold fd_c
  by_cases z : fd_k m = 0
  · have hmm : m = 0 ∨ m = 0x8000000000000000 := by
      have hl := m.toNat_lt
      unfold fd_k FP.Core.dkey at z
      by_cases y : 2 ^ 63 ≤ m.toNat
      · rw [if_pos y] at z
        refine Or.inr (UInt64.toNat_inj.mp ?_)
        show m.toNat = 9223372036854775808
        omega
      · rw [if_neg y] at z
        exact Or.inl (UInt64.toNat_inj.mp (by
          show m.toNat = 0
          omega))
    rw [if_pos z]
    rcases hmm with rfl | rfl
    · rfl
    · rw [fd_sub0 hx.n]
      have e : FP.Core.dsub x 0x8000000000000000 = FP.Core.dadd x (FP.Core.dneg 0x8000000000000000) := FP.Core.dsub_eq x _
      have e2 : FP.Core.dneg 0x8000000000000000 = 0 := by decide +kernel
      have e3 : FP.Core.dadd x 0 = x := FP.Core.dadd_zero hx.n (fun y => by
        rw [y] at hcx
        revert hcx
        decide +kernel)
      show FP.Core.dsub x 0x8000000000000000 = x
      rw [e, e2, e3]
  · rw [if_neg z]
end MFI
