/-! THE PURE PART: the reference's ranks; its figures (0 to 14) -/
section MRN
variable {h : gk_H} {S S0 S1 : gv_S} {x : UInt64} {row : List UInt64} {a n : Nat} {vs : Nat → gp_V} {V : gp_V}
theorem mk_33 (hn : ∀ y ∈ row, fd_n y) (hl : row.length ≤ 128) (hx : fd_n x) (hr : mR S row) : ∀ (t p : List UInt64) (fu gr : Nat) (th : Bool), row = p ++ t → t.length < fu → f_M_ranks_b33 fu (some 30) x (gI gr) (gB th) (gI p.length) (gv_ov h S) = if (th || s_am x t) = true then f_M_ranks_b106 (some 30) (gI (gr + s_gt x t)) (gv_ov h S) else gk_ca (f_M_fail (some 30) (gI 7) (gv_ov h S)) fun _ h1 => f_M_ranks_b106 (some 30) (gI (gr + s_gt x t)) h1 := by
  intro t
  induction t with
  | nil =>
    intro p fu gr th e hfu
    obtain ⟨fu, rfl⟩ : ∃ f, fu = f + 1 := ⟨fu - 1, by omega⟩
    have hlp : row.length = p.length := by rw [e]; simp
    have es : s_am x [] = false := rfl
    rw [f_M_ranks_b33]
    dsimp only
    rw [gg_30_12, hr.len, ite_le _ _ _ _ (by omega) (by omega), if_pos (by omega), ite_B, gc_30, es, Bool.or_false]
    rfl
  | cons c t ih =>
    intro p fu gr th e hfu
    rw [List.length_cons] at hfu
    obtain ⟨fu, rfl⟩ : ∃ f, fu = f + 1 := ⟨fu - 1, by omega⟩
    have hlp : row.length = p.length + (t.length + 1) := by rw [e]; simp
    have hc : row.getD p.length 0 = c := by rw [e]; exact getD_mid p t c
    have cn := hn c (by rw [e]; simp)
    have i1 : gI p.length + (1 : Int32) = gI (p.length + 1) := gI_add _ 1
    have o1 : (1 : Int32) = gB true := rfl
    have o0 : (0 : Int32) = gB false := rfl
    have nx : ∀ (gr' : Nat) (th' : Bool), gr' + s_gt x t = gr + s_gt x (c :: t) → (th' || s_am x t) = (th || s_am x (c :: t)) → f_M_ranks_b87 (f_M_ranks_b33 fu) (some 30) x (gI gr') (gI p.length) (gB th') (gv_ov h S) = if (th || s_am x (c :: t)) = true then f_M_ranks_b106 (some 30) (gI (gr + s_gt x (c :: t))) (gv_ov h S) else gk_ca (f_M_fail (some 30) (gI 7) (gv_ov h S)) fun _ h1 => f_M_ranks_b106 (some 30) (gI (gr + s_gt x (c :: t))) h1 := fun gr' th' h1 h2 => by
      have := ih (p ++ [c]) fu gr' th' (by rw [List.append_assoc]; exact e) (by omega)
      rw [List.length_append, List.length_singleton] at this
      unfold f_M_ranks_b87
      rw [gk_let_eq, i1, ← h1, ← h2]
      exact this
    have es : s_am x (c :: t) = (decide (fd_k c = fd_k x) || s_am x t) := rfl
    have eg : s_gt x (c :: t) = (if fd_k x < fd_k c then 1 else 0) + s_gt x t := rfl
    have b63 : ∀ gr' : Nat, gr' + s_gt x t = gr + s_gt x (c :: t) → f_M_ranks_b63 (f_M_ranks_b33 fu) (some 30) x (gB th) (gI p.length) (gI gr') (gv_ov h S) = if (th || s_am x (c :: t)) = true then f_M_ranks_b106 (some 30) (gI (gr + s_gt x (c :: t))) (gv_ov h S) else gk_ca (f_M_fail (some 30) (gI 7) (gv_ov h S)) fun _ h1 => f_M_ranks_b106 (some 30) (gI (gr + s_gt x (c :: t))) h1 := fun gr' h1 => by
      unfold f_M_ranks_b63 f_M_ranks_b82
      rw [ite_B, gr_30_13, ga_39 (by omega), hr.at (by omega), hc, fi_eq _ _ cn hx]
      cases th
      · rw [if_neg (by decide)]
        by_cases z : fd_k c = fd_k x
        · rw [if_pos z, o1]
          exact nx gr' true h1 (by rw [es, decide_eq_true z]; rfl)
        · rw [if_neg z, o0]
          exact nx gr' false h1 (by rw [es, decide_eq_false z]; rfl)
      · rw [if_pos rfl, o1]
        exact nx gr' true h1 (by rw [Bool.true_or, Bool.true_or])
    rw [f_M_ranks_b33]
    dsimp only
    rw [gg_30_12, hr.len, ite_le _ _ _ _ (by omega) (by omega), if_neg (by omega), gr_30_13, ga_39 (by omega), hr.at (by omega), hc, fi_le _ _ cn hx]
    by_cases z : fd_k c ≤ fd_k x
    · rw [if_pos z]
      exact b63 gr (by rw [eg, if_neg (by omega)]; omega)
    · rw [if_neg z, show gI gr + (1 : Int32) = gI (gr + 1) from gI_add _ 1]
      exact b63 (gr + 1) (by rw [eg, if_pos (by omega)]; omega)
theorem s_gt_le (x : UInt64) : ∀ t : List UInt64, s_gt x t ≤ t.length
  | [] => Nat.le_refl _
  | y :: r => by
    have := s_gt_le x r
    show (if fd_k x < fd_k y then 1 else 0) + s_gt x r ≤ r.length + 1
    split <;> omega
/-- RANK -/
theorem mk_rank (g : mG S a vs n) (hn2 : 2 ≤ n) (hb : S.1 30 11 = gI 0) : mF h S (f_M_ranks (some 30) (gI 12) (gI a) (gv_ov h S)) (gV_1 (sp_rank vs)) := by
  have h16 := g.1
  obtain ⟨a1, a2, a3⟩ := g.sN (k := 0) (by omega)
  have hX0 : mX mSt S (gM S []) := (gM_X S []).le fun _ _ z => mQR_st (Or.inr z)
  have g0 := g.st hX0
  have hb0 : (gM S []).1 30 11 = gI 0 := by
    rw [gM_i _ _ _ _ (by decide)]
    exact hb
  obtain ⟨T1, e1, e2, e3⟩ := m_numN (h := h) g0 (k := 0) (by omega) hb0 (by decide)
  rw [bl_n] at e3
  rw [if_pos rfl, Nat.add_zero] at e1
  have q1 : mX mSt S T1 := hX0.trans (e2.le fun _ _ z => mQ_st z)
  have r1 : mR T1 [] := (gM_mR S []).q e2
  have g1 := g.st q1
  unfold f_M_ranks
  rw [gs_30_12, show gv_uI S 30 12 (0 : Int32) = gM S [] from gM_0 S, if_pos (show gI 12 = (12 : Int32) from rfl), gc_30, e1, gk_ca_some, show gI a + (1 : Int32) = gI (a + 1) from gI_add _ 1, gc_30]
  -- the answer behind the cells
  have fin1 : ∀ (T : gv_S) (row : List UInt64) (e : Nat), mX mSt S T → mR T row → row.length ≤ 16 → (∀ y ∈ row, fd_n y) → T.1 30 11 = gI e → e ≤ 8 → mF h S (f_M_ranks_b33 gk_F (some 30) (sN vs 0).2 (0 : Int32) (0 : Int32) (0 : Int32) (gv_ov h T)) (gV_1 (sx e (if s_am (sN vs 0).2 row = true then gc_n (FP.i2d (gI (1 + s_gt (sN vs 0).2 row))) else gc_e 7))) := fun T row e hX hr hl hn hT he => by
    have hgl := s_gt_le (sN vs 0).2 row
    have e33 := mk_33 (h := h) hn (by omega) a1.n hr row [] gk_F 0 false rfl (by unfold gk_F; omega)
    have e33' : f_M_ranks_b33 gk_F (some 30) (sN vs 0).2 (0 : Int32) (0 : Int32) (0 : Int32) (gv_ov h T) = _ := e33
    have b106 : ∀ (T : gv_S) (e : Nat), mX mSt S T → T.1 30 11 = gI e → e ≤ 8 → mF h S (f_M_ranks_b106 (some 30) (gI (0 + s_gt (sN vs 0).2 row)) (gv_ov h T)) (gV_1 (sx e (gc_n (FP.i2d (gI (1 + s_gt (sN vs 0).2 row)))))) := fun T e hX hT he => by
      unfold f_M_ranks_b106
      rw [gc_30, gu_idU, show gI (0 + s_gt (sN vs 0).2 row) + (1 : Int32) = gI (1 + s_gt (sN vs 0).2 row) from by rw [show gI (0 + s_gt (sN vs 0).2 row) + (1 : Int32) = gI (0 + s_gt (sN vs 0).2 row + 1) from gI_add _ 1]; congr 1; omega]
      exact mF.ansS (fd_i2df _) hX hT he
    rw [e33', Bool.false_or]
    by_cases z : s_am (sN vs 0).2 row = true
    · rw [if_pos z, if_pos z]
      exact b106 T e hX hT he
    · rw [if_neg z, if_neg z, m_fail e 7 hT he, gk_ca_some]
      have hb7 : bl e 7 ≤ 8 := bl_le he (by decide)
      have := b106 _ (bl e 7) (hX.trans (mX.I _ (mB_st ⟨rfl, rfl⟩))) (gu11 _) hb7
      have es : sx (bl e 7) (gc_n (FP.i2d (gI (1 + s_gt (sN vs 0).2 row)))) = sx e (gc_e 7) := by
        unfold sx bl
        by_cases y : e = 0
        · rw [if_pos y, if_pos y, if_neg (by decide)]
        · rw [if_neg y, if_neg y, if_neg y]
      rw [es] at this
      exact this
  by_cases z : (sN vs 0).1 = 0
  · rw [z] at e3
    obtain ⟨T2, row, p1, p2, p3, p4, p5, p6, p7⟩ := m_cells0 (h := h) (g1.2 1 (by omega)) (by omega) e3 r1
    have q2 : mX mSt S T2 := q1.trans (p2.le fun _ _ z => mQR_st z)
    have hle : sc_err (vs 1).2.2.2 (cellsN (vs 1)) ≤ 8 := sc_err_le _ fun k hk => (g.ok (k := 1) (by omega)).2.2.2.1 k hk
    have := fin1 T2 row _ q2 p4 p5 p6 p3 hle
    rw [p1, gk_ca_some]
    have e : sx (sc_err (vs 1).2.2.2 (cellsN (vs 1))) (if s_am (sN vs 0).2 row = true then gc_n (FP.i2d (gI (1 + s_gt (sN vs 0).2 row))) else gc_e 7) = sp_rank vs := by
      unfold sp_rank
      rw [z, bl_n]
      by_cases y : sc_err (vs 1).2.2.2 (cellsN (vs 1)) = 0
      · rw [p7 y]
      · unfold sx
        rw [if_neg y, if_neg y]
    rw [e] at this
    exact this
  · rw [m_cellsE (h := h) (g1.2 1 (by omega)) (by omega) e3 a3 z, gk_ca_some]
    have := fin1 T1 [] _ q1 r1 (by decide) (fun y hy => absurd hy List.not_mem_nil) e3 a3
    have e : sx (sN vs 0).1 (if s_am (sN vs 0).2 [] = true then gc_n (FP.i2d (gI (1 + s_gt (sN vs 0).2 []))) else gc_e 7) = sp_rank vs := by
      unfold sp_rank
      rw [bl_p z]
      unfold sx
      rw [if_neg z, if_neg z]
    rw [e] at this
    exact this
/-- LARGE, SMALL -/
theorem mk_at (g : mG S a vs n) (hn2 : 2 ≤ n) (hb : S.1 30 11 = gI 0) (f : Nat) (hf : f = 10 ∨ f = 11) : mF h S (f_M_ranks (some 30) (gI f) (gI a) (gv_ov h S)) (gV_1 (sp_rk f vs)) := by
  have h16 := g.1
  obtain ⟨w1, w2, w3⟩ := g.sW (k := 1) (by omega)
  have hX0 : mX mSt S (gM S []) := (gM_X S []).le fun _ _ z => mQR_st (Or.inr z)
  have g0 := g.st hX0
  have hb0 : (gM S []).1 30 11 = gI 0 := by
    rw [gM_i _ _ _ _ (by decide)]
    exact hb
  have hm0 := g0.2 0 (by omega)
  rw [Nat.add_zero] at hm0
  have hok0 := (g.ok (k := 0) (by omega))
  have hle : sc_err (vs 0).2.2.2 (cellsN (vs 0)) ≤ 8 := sc_err_le _ fun k hk => hok0.2.2.2.1 k hk
  obtain ⟨T1, row, p1, p2, p3, p4, p5, p6, p7⟩ := m_cells0 (h := h) hm0 (by omega) hb0 (gM_mR S [])
  have q1 : mX mSt S T1 := hX0.trans (p2.le fun _ _ z => mQR_st z)
  obtain ⟨T2, e1, e2, e3⟩ := m_whoW (h := h) (g.st q1) (k := 1) (by omega) p3 hle
  have q2 : mX mSt S T2 := q1.trans (e2.le fun _ _ z => mQ_st z)
  have hE := bl_le hle w1
  have nf : ¬ gI f = (12 : Int32) := by rcases hf with rfl | rfl <;> decide
  unfold f_M_ranks sp_rk
  rw [gs_30_12, show gv_uI S 30 12 (0 : Int32) = gM S [] from gM_0 S, if_neg nf, gc_30, p1, gk_ca_some, show gI a + (1 : Int32) = gI (a + 1) from gI_add _ 1, gc_30, e1, gk_ca_some, gg_30_11, e3, itl0 _ hE]
  by_cases z : bl (sc_err (vs 0).2.2.2 (cellsN (vs 0))) (sW vs 1) = 0
  · have z0 := (bl_z.mp z).1
    have hrow := p7 z0
    have r2 : mR T2 row := p4.q e2
    have hrl := sc_row_len (vs 0).2.2.2 (cellsN (vs 0))
    rw [z] at e3
    rw [if_pos z, if_pos z0, show ∀ c : gp_C, sx (bl (sc_err (vs 0).2.2.2 (cellsN (vs 0))) (sW vs 1)) c = c from fun c => if_pos z, ← hrow]
    have ok : okR row := by
      rw [hrow]
      exact okR.sc _ fun k hk => hok0.2.2.2.1 k hk
    have b153 : mF h S (f_M_ranks_b153 (some 30) (gv_ov h T2)) (gV_1 (gc_e 6)) := by
      unfold f_M_ranks_b153
      rw [gc_30, gu_idU, gI_lit 6, m_fail 0 6 e3 (by decide), bl_n]
      exact mF.err (q2.trans (mX.I _ (mB_st ⟨rfl, rfl⟩))) (gu11 6) (by decide) (by decide)
    have el : Int32.toInt64 (gI row.length) = gJ (row.length : Int) := by
      have h1 : ∀ m : Nat, m ≤ 16 → Int32.toInt64 (gI m) = gJ (m : Int) := fun m hm => by
        have : ∀ k : Fin 17, Int32.toInt64 (gI k.val) = gJ (k.val : Int) := by decide +kernel
        exact this ⟨m, by omega⟩
      exact h1 _ p5
    rw [show (1 : Int64) = gJ 1 from rfl, jte_lt _ _ _ _ (by omega) (by omega) (by decide) (by decide), gg_30_12, r2.len, el, jte_le _ _ _ _ (by omega) (by omega) (by omega) (by omega)]
    by_cases c1 : sw_x vs 1 < 1
    · rw [if_pos c1, if_pos (Or.inl c1)]
      exact b153
    · rw [if_neg c1]
      by_cases c2 : sw_x vs 1 ≤ (row.length : Int)
      · rw [if_pos c2, if_neg (by omega)]
        have hs := m_sort (h := h) (S := T2) row (by omega) (fun y hy => (ok y hy).1.n)
        rw [show gM T2 row = T2 from r2] at hs
        have hX3 : mX mSt S (gM T2 (sr row)) := q2.trans ((gM_X _ _).le fun _ _ q => mQR_st (Or.inr q))
        have hb3 : (gM T2 (sr row)).1 30 11 = gI 0 := by
          rw [gM_i _ _ _ _ (by decide)]
          exact e3
        have r3 : mR (gM T2 (sr row)) (sr row) := gM_mR _ _
        have hln := sr_len row
        have ok2 := okR.sr ok
        obtain ⟨i, hi⟩ : ∃ i : Nat, sw_x vs 1 = (i : Int) := ⟨(sw_x vs 1).toNat, by omega⟩
        rw [hi, gc_30, hs, gk_ca_some, gr_30_13, gg_30_12, r3.len, hln, gJ_toI i (by omega), gI_sub _ _ (by omega), show gI i - (1 : Int32) = gI (i - 1) from gI_sub _ 1 (by omega), show ((i : Int)).toNat = i from rfl]
        have b189 : ∀ k : Nat, k < row.length → mF h S (f_M_ranks_b189 (some 30) (some 39) (gI k) (gv_ov h (gM T2 (sr row)))) (gV_1 (gc_n ((sr row).getD k 0))) := fun k hk => by
          unfold f_M_ranks_b189
          rw [ga_39 (by omega), r3.at (by omega), gc_30, gu_idU]
          exact mF.ansN (ok2.get _).1 hX3 hb3
        rcases hf with rfl | rfl
        · rw [if_neg (show ¬ gI 10 = (11 : Int32) by decide), if_pos rfl]
          exact b189 _ (by omega)
        · rw [if_pos (show gI 11 = (11 : Int32) from rfl), if_neg (by decide)]
          exact b189 _ (by omega)
      · rw [if_neg c2, if_pos (Or.inr (by omega))]
        exact b153
  · rw [if_neg z, show ∀ c : gp_C, sx (bl (sc_err (vs 0).2.2.2 (cellsN (vs 0))) (sW vs 1)) c = gc_e (bl (sc_err (vs 0).2.2.2 (cellsN (vs 0))) (sW vs 1)) from fun c => if_neg z]
    exact mF.err q2 e3 z hE
theorem su_fig (f : Nat) (hf : f = 0 ∨ f = 1 ∨ f = 2 ∨ f = 3 ∨ f = 4 ∨ f = 5 ∨ f = 9 ∨ f = 13 ∨ f = 14) (vs : Nat → gp_V) (n : Nat) : sp_su f vs n = sx (sg_err vs n) (sp_fig f (sg_row vs n)) := by
  unfold sp_su
  rw [if_neg (by omega), if_neg (by omega), if_neg (by omega), if_neg (by omega), if_neg (by omega)]
/-- functions 0 to 14 -/
theorem mo_figures (g : mG S a vs n) (hb : S.1 30 11 = gI 0) (f : Nat) (hf : f ≤ 14) (hn8 : n ≤ 8) (hn2 : f = 10 ∨ f = 11 ∨ f = 12 → 2 ≤ n) : mF h S (f_M_figures (some 30) (gI f) (gI a) (gI n) (gv_ov h S)) (gV_1 (sp_su f vs n)) := by
  have h16 := g.1
  have q : ∀ (m : Nat), m < 1000 → (gI f = gI m) = (f = m) := fun m hm => gI_eq f m (by omega) (by omega)
  unfold f_M_figures
  rw [gI_lit 5, ite_le _ _ _ _ (by omega) (by decide), gI_lit 9, ite_le _ _ _ _ (by decide) (by omega)]
  have b24 : ¬ (f = 6 ∨ f = 7 ∨ f = 8) → mF h S (f_M_figures_b24 (some 30) (gI f) (gI a) (gI n) (gv_ov h S)) (gV_1 (sp_su f vs n)) := by
    intro nf
    have b43 : ¬ (f = 10 ∨ f = 11 ∨ f = 12) → mF h S (f_M_figures_b43 (some 30) (gI f) (gI a) (gI n) (gv_ov h S)) (gV_1 (sp_su f vs n)) := by
      intro nf2
      obtain ⟨T, e1, e2, e3, e4⟩ := m_wantRows (h := h) g.2 g.1 hn8 hb
      have hE := sg_err_le vs n fun k hk => g.ok hk
      have qX : mX mSt S T := e2.le fun _ _ z => mQR_st z
      have hfs : f = 0 ∨ f = 1 ∨ f = 2 ∨ f = 3 ∨ f = 4 ∨ f = 5 ∨ f = 9 ∨ f = 13 ∨ f = 14 := by omega
      rw [su_fig f hfs]
      unfold f_M_figures_b43
      rw [gc_30, e1, gk_ca_some, gg_30_11, e3, itl0 _ hE]
      by_cases z : sg_err vs n = 0
      · have hr := e4 z
        have hl := sg_row_len vs n fun k hk => g.ok hk
        have ok := okR.sg (vs := vs) n fun k hk => g.ok hk
        rw [z] at e3
        rw [if_pos z, show ∀ c : gp_C, sx (sg_err vs n) c = c from fun c => if_pos z]
        revert hr hl ok
        generalize sg_row vs n = row
        intro hr hl ok
        have b331 : ∀ (v : UInt64) (U : gv_S) (c : gp_C), mX mSt S U → mV c v U → isR c → mF h S (f_M_figures_b331 (some 30) v (gv_ov h U)) (gV_1 c) := fun v U c hU hv hc => by
          unfold f_M_figures_b331
          rw [gc_30, gu_idU]
          exact mF.ans hv hU hc
        -- 0 to 3
        have b84 : ∀ x0 : UInt64, f ≤ 3 → fd_f x0 → x0 = (if f = 1 then (if row = [] then 0 else 0x3ff0000000000000) else 0) → mF h S (f_M_figures_b84 gk_F (some 30) (gI f) x0 (0 : Int32) (gv_ov h T)) (gV_1 (sp_fig f row)) := by
          intro x0 hf3 hx0 ex0
          obtain ⟨n1, n2⟩ := mfi_84 (h := h) ok (by omega) f hf3 row [] gk_F x0 rfl (by unfold gk_F; omega) hx0 e3 hr
          have n2' : (fin (fo (mfg f) x0 row) ∧ f_M_figures_b84 gk_F (some 30) (gI f) x0 (0 : Int32) (gv_ov h T) = f_M_figures_b165 (some 30) (gI f) (fo (mfg f) x0 row) (gv_ov h T)) ∨ (¬ fin (fo (mfg f) x0 row) ∧ ∃ v U, f_M_figures_b84 gk_F (some 30) (gI f) x0 (0 : Int32) (gv_ov h T) = f_M_figures_b165 (some 30) (gI f) v (gv_ov h U) ∧ mX mB T U ∧ U.1 30 11 = gI 6 ∧ fd_n v) := n2
          clear n2
          have q3 := q 3 (by decide)
          have efig : f ≠ 3 → sp_fig f row = gc_num (fo (mfg f) x0 row) := fun h3 => by
            have : f = 0 ∨ f = 1 ∨ f = 2 := by omega
            rcases this with rfl | rfl | rfl
            · rw [ex0]
              rfl
            · rw [ex0]
              rfl
            · rw [ex0]
              rfl
          have esum : f = 3 → fo (mfg f) x0 row = s_sum row := fun h3 => by
            rw [ex0, h3]
            rfl
          rcases n2' with ⟨z1, e⟩ | ⟨z1, v, U, e, u1, u2, u3⟩
          · have hff := (fin_f n1).mp z1
            rw [e]
            unfold f_M_figures_b165
            rw [gg_30_11, e3, ite0 0 (by decide), if_pos rfl]
            by_cases h3 : f = 3
            · obtain ⟨U, v, d1, d2, d3⟩ := mNv.div (h := h) hff (fd_i2df (gI row.length)) e3
              have ea : sp_fig f row = if fd_k (FP.i2d (gI row.length)) = 0 then gc_e 2 else gc_num (FP.ddiv (fo (mfg f) x0 row) (FP.i2d (gI row.length))) := by
                rw [esum h3, h3]
                show sp_avg row = _
                unfold sp_avg
                by_cases y : row.length = 0
                · rw [if_pos y, if_pos (by rw [y]; decide +kernel)]
                · rw [if_neg y, if_neg (fd_i2nz (by omega) (by omega)).2]
              rw [if_pos (show gI f = (3 : Int32) from q3.mpr h3), gg_30_12, hr.len, gc_30, d1, gk_ca_some]
              rw [← ea] at d3
              exact b331 v U _ (qX.trans (d2.le fun _ _ w => mB_st w)) d3 (isR.fig f row)
            · rw [if_neg (show ¬ gI f = (3 : Int32) from fun w => h3 (q3.mp w))]
              refine b331 _ T _ qX ?_ (isR.fig f row)
              rw [efig h3, gc_num_f z1]
              exact ⟨e3, n1, fun _ => ⟨rfl, hff⟩⟩
          · have e6 : sp_fig f row = gc_e 6 := by
              by_cases h3 : f = 3
              · rw [esum h3] at z1 n1
                have hz : row.length ≠ 0 := fun q => by
                  have : row = [] := List.length_eq_zero_iff.mp q
                  rw [this] at z1
                  exact z1 ((fin_f fd_0_n).mpr fd_f0)
                obtain ⟨m1, m2⟩ := fd_i2nz (j := row.length) (by omega) (by omega)
                obtain ⟨i1, i2⟩ := fd_inf_div n1 (fin_nf n1 z1) m1 m2
                rw [h3]
                show sp_avg row = _
                unfold sp_avg
                rw [if_neg hz, gc_num_i (nf_fin i1 i2)]
              · rw [efig h3]
                exact gc_num_i z1
            rw [e, e6]
            unfold f_M_figures_b165
            rw [gg_30_11, u2, ite0 6 (by decide), if_neg (by decide)]
            exact b331 v U _ (qX.trans (u1.le fun _ _ w => mB_st w)) (mp_err rfl (by decide) (by decide) u3 u2) (isR.e (by decide) (by decide))
        have b74 : ∀ x0 : UInt64, fd_f x0 → (f ≤ 3 → x0 = (if f = 1 then (if row = [] then 0 else 0x3ff0000000000000) else 0)) → mF h S (f_M_figures_b74 (some 30) (gI f) x0 (gv_ov h T)) (gV_1 (sp_fig f row)) := by
          intro x0 hx0 ex0
          unfold f_M_figures_b74
          rw [gI_lit 4, ite_le _ _ _ _ (by decide) (by omega), gI_lit 6, ite_le _ _ _ _ (by decide) (by omega)]
          by_cases h4 : 4 ≤ f
          · rw [if_pos h4]
            by_cases h6 : 6 ≤ f
            · have q9 := q 9 (by decide)
              have q14 := q 14 (by decide)
              rw [if_pos h6]
              by_cases h9 : f = 9
              · obtain ⟨U, v, d1, d2, d3⟩ := mo_median (h := h) ok (by omega) e3 hr
                rw [if_pos (show gI f = (9 : Int32) from q9.mpr h9), gc_30, d1, gk_ca_some]
                have ef : sp_fig f row = sp_med row := by
                  rw [h9]
                  rfl
                rw [ef]
                exact b331 v U _ (qX.trans (d2.le fun _ _ w => mRw2_st w)) d3 (isR.med row)
              · rw [if_neg (show ¬ gI f = (9 : Int32) from fun w => h9 (q9.mp w))]
                have vv : ∀ less : Bool, less = decide (f = 14) → mF h S (f_M_figures_b326 (some 30) (some 30) (gB less) (gv_ov h T)) (gV_1 (sp_fig f row)) := fun less hless => by
                  obtain ⟨U, v, d1, d2, d3⟩ := mo_variance (h := h) (less := less) ok (by omega) e3 hr
                  unfold f_M_figures_b326
                  rw [gc_30, d1, gk_ca_some]
                  have ef : sp_fig f row = sp_var row ((row.length : Int) - (if less = true then 1 else 0)) := by
                    have : f = 13 ∨ f = 14 := by omega
                    rcases this with rfl | rfl
                    · rw [hless]
                      show sp_var row row.length = _
                      congr 1
                    · rw [hless]
                      rfl
                  rw [ef]
                  exact b331 v U _ (qX.trans (d2.le fun _ _ w => mB_st w)) d3 (isR.var row _)
                by_cases h14 : f = 14
                · rw [if_pos (show gI f = (14 : Int32) from q14.mpr h14)]
                  exact vv true (by rw [decide_eq_true h14])
                · rw [if_neg (show ¬ gI f = (14 : Int32) from fun w => h14 (q14.mp w))]
                  exact vv false (by rw [decide_eq_false h14])
            · have f45 : f = 4 ∨ f = 5 := by omega
              rw [if_neg h6, gg_30_12, hr.len, show (0 : Int32) = gI 0 from rfl, ite_le _ _ _ _ (by omega) (by decide)]
              have ef : sp_fig f row = gc_n (s_ext (decide (f = 5)) (row.getD 0 0) (row.drop 1)) := by
                rcases f45 with rfl | rfl <;> rfl
              unfold f_M_figures_b216
              have fe : ∀ v : UInt64, fd_f v → mF h S (f_M_figures_b331 (some 30) v (gv_ov h T)) (gV_1 (gc_n v)) := fun v hv => b331 v T _ qX ⟨e3, hv.n, fun _ => ⟨rfl, hv⟩⟩ (isR.n v)
              rw [ef]
              by_cases y : row.length ≤ 0
              · have e0 : row = [] := List.length_eq_zero_iff.mp (by omega)
                rw [if_pos y]
                have e221 : f_M_figures_b221 (999999 + 1) (some 30) (gI f) 0 (gI 1) (gv_ov h T) = f_M_figures_b331 (some 30) 0 (gv_ov h T) := by
                  rw [f_M_figures_b221]
                  dsimp only
                  rw [gg_30_12, hr.len, ite_le _ _ _ _ (by omega) (by decide), if_pos (by omega)]
                have e221' : f_M_figures_b221 gk_F (some 30) (gI f) 0 (1 : Int32) (gv_ov h T) = _ := e221
                rw [e221', e0]
                exact fe 0 fd_f0
              · obtain ⟨c, t, et⟩ : ∃ c t, row = c :: t := by
                  cases row with
                  | nil => exact absurd (Nat.le_refl 0) y
                  | cons c t => exact ⟨c, t, rfl⟩
                have hcf := ok c (by rw [et]; simp)
                have e221 := mfi_221 (h := h) ok (by omega) f f45 t [c] gk_F c (by rw [et]; rfl) (by have : row.length = t.length + 1 := by rw [et]; rfl
                                                                                                     unfold gk_F; omega) hcf.1 hr
                have e221' : f_M_figures_b221 gk_F (some 30) (gI f) c (1 : Int32) (gv_ov h T) = _ := e221
                have e0 : row.getD 0 0 = c := by rw [et]; rfl
                have ed : row.drop 1 = t := by rw [et]; rfl
                rw [if_neg y, gr_30_13, ga_39 (by decide), hr.at (by omega), e0, ed, e221']
                refine fe _ (s_ext_f _ t c hcf.1 fun x hx => (ok x ?_).1)
                rw [et]
                exact List.mem_cons_of_mem _ hx
          · rw [if_neg h4]
            exact b84 x0 (by omega) hx0 (ex0 (by omega))
        unfold f_M_figures_b73
        have q1 := q 1 (by decide)
        by_cases h1 : f = 1
        · rw [if_pos (show gI f = (1 : Int32) from q1.mpr h1), gg_30_12, hr.len, show (0 : Int32) = gI 0 from rfl, ite_le _ _ _ _ (by omega) (by decide)]
          by_cases y : row.length ≤ 0
          · rw [if_pos y]
            exact b74 0 fd_f0 fun _ => by rw [if_pos h1, if_pos (List.length_eq_zero_iff.mp (by omega))]
          · rw [if_neg y]
            exact b74 _ fd_1_f fun _ => by rw [if_pos h1, if_neg (fun w => y (by rw [w]; decide))]
        · rw [if_neg (show ¬ gI f = (1 : Int32) from fun w => h1 (q1.mp w))]
          exact b74 0 fd_f0 fun _ => by rw [if_neg h1]
      · rw [if_neg z, show ∀ c : gp_C, sx (sg_err vs n) c = gc_e (sg_err vs n) from fun c => if_neg z]
        exact mF.err qX e3 z hE
    unfold f_M_figures_b24
    rw [gI_lit 9, ite_le _ _ _ _ (by omega) (by decide), gI_lit 13, ite_le _ _ _ _ (by decide) (by omega), gc_30, gu_idU]
    by_cases z1 : f ≤ 9
    · rw [if_pos z1]
      exact b43 (by omega)
    · rw [if_neg z1]
      by_cases z2 : 13 ≤ f
      · rw [if_pos z2]
        exact b43 (by omega)
      · rw [if_neg z2]
        have hn := hn2 (by omega)
        by_cases z3 : f = 12
        · have es : sp_su f vs n = sp_rank vs := by
            rw [z3]
            unfold sp_su
            rw [if_neg (by decide), if_neg (by decide), if_pos rfl]
          rw [es, z3]
          exact mk_rank g hn hb
        · have es : sp_su f vs n = sp_rk f vs := by
            unfold sp_su
            rw [if_neg (by omega), if_pos (by omega)]
          rw [es]
          exact mk_at g hn hb f (by omega)
  by_cases z1 : f ≤ 5
  · rw [if_pos z1]
    exact b24 (by omega)
  · rw [if_neg z1]
    by_cases z2 : 9 ≤ f
    · rw [if_pos z2]
      exact b24 (by omega)
    · rw [if_neg z2]
      have f678 : f = 6 ∨ f = 7 ∨ f = 8 := by omega
      obtain ⟨T, e1, e2⟩ := mo_howMany (h := h) g f f678 hn8
      have es : sp_su f vs n = gc_n (FP.i2d (gI (sg_cnt f vs n))) := by
        unfold sp_su
        rw [if_pos f678]
      have hbT : T.1 30 11 = gI 0 := by
        rw [e2.i (fun w => by unfold mRd at w; omega)]
        exact hb
      rw [gc_30, e1, gk_ca_some, gc_30, gu_idU, es]
      exact mF.ansN (fd_i2df _) (e2.le fun _ _ w => mRd_st w) hbT
end MRN
