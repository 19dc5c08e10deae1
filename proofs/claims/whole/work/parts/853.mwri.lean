/-! THE PURE PART: the reference writes a number, takes a text -/
section MWI
variable {h : gk_H} {S : gv_S} {w : Nat} {l : List Nat} {V : gp_V} {f : Nat}
theorem mW.cut {z : List Nat} (a : mW S w (l ++ z)) : mW (gv_uI S 40 w (gI l.length)) w l := by
  obtain ⟨a1, a2, a3, a4⟩ := a
  rw [List.length_append] at a1
  refine ⟨by omega, fun c hc => a2 c (List.mem_append_left _ hc), gu_I2 _ _ _ _, fun k hk => ?_⟩
  rw [gu_I1 _ _ _ _ _ _ (by omega), a4 k (by rw [List.length_append]; omega), List.getD_eq_getElem?_getD, List.getElem?_append_left hk, ← List.getD_eq_getElem?_getD]
/-- zeros at the end left out -/
theorem mw_strip (A : List Nat) (hw : w < 9) : ∀ (z : List Nat) (fu : Nat) (S : gv_S), z.length < fu → z.dropWhile w0 ≠ [] → mW S w (A ++ z.reverse) → ∃ S', f_M_write_b139 fu (some 30) (gI w) (gv_ov h S) = some ((), gv_ov h S') ∧ mX (mWd w) S S' ∧ mW S' w (A ++ (z.dropWhile w0).reverse) := by
  intro z
  induction z with
  | nil => intro fu S _ hz _; exact absurd rfl hz
  | cons c z ih =>
    intro fu S hf hz a
    obtain ⟨fu, rfl⟩ : ∃ f, fu = f + 1 := ⟨fu - 1, by omega⟩
    rw [List.length_cons] at hf
    have a' := a
    rw [List.reverse_cons, ← List.append_assoc] at a'
    have el : (A ++ (c :: z).reverse).length = A.length + z.length + 1 := by
      rw [List.length_append, List.length_reverse, List.length_cons]
      omega
    have e255 := a.1
    rw [el] at e255
    have hlast : S.1 41 (256 * w + (A.length + z.length)) = gI c := by
      rw [a'.2.2.2 (A.length + z.length) (by rw [List.length_append, List.length_append, List.length_reverse, List.length_singleton]; omega), List.getD_eq_getElem?_getD, List.getElem?_append_right (by rw [List.length_append, List.length_reverse]; omega)]
      rw [List.length_append, List.length_reverse, Nat.sub_self]
      rfl
    have hc : c < 128 := a.2.1 c (List.mem_append_right _ (List.mem_reverse.mpr (List.mem_cons_self ..)))
    have ei : gI (256 * w + (A.length + z.length + 1)) - (1 : Int32) = gI (256 * w + (A.length + z.length)) := gI_sub _ 1 (by omega)
    rw [f_M_write_b139]
    unfold f_M_write_b176 f_M_write_b192
    dsimp only
    rw [gr_30_15, gr_30_14, ga_40 hw, a.2.2.1, el, gI_lit 256, gI_mul, gI_add, ei, ga_41 (by omega), hlast, gI_lit 48, ite_eq _ _ _ _ (by omega) (by decide)]
    by_cases q : c = 48
    · have ew : (c :: z).dropWhile w0 = z.dropWhile w0 := by
        rw [List.dropWhile_cons_of_pos (by unfold w0; rw [q]; rfl)]
      rw [ew] at hz ⊢
      have hcut := mW.cut a'
      obtain ⟨S', q1, q2, q3⟩ := ih fu _ (by omega) hz hcut
      have x1 : mX (mWd w) S (gv_uI S 40 w (gI (A ++ z.reverse).length)) := mX.I _ (Or.inl ⟨rfl, rfl⟩)
      rw [if_pos q, gr_30_14, ga_40 hw, a.2.2.1, el, show gI (A.length + z.length + 1) - (1 : Int32) = gI (A ++ z.reverse).length from by
        rw [List.length_append, List.length_reverse]
        exact gI_sub _ 1 (by omega), gt_40 hw]
      exact ⟨S', q1, x1.trans q2, q3⟩
    · have ew : (c :: z).dropWhile w0 = c :: z := List.dropWhile_cons_of_neg (by unfold w0; rw [beq_iff_eq]; exact q)
      rw [if_neg q, ew]
      exact ⟨S, rfl, mX.refl _ _, a⟩
theorem m_writeB {y : UInt64} (hw : w < 9) (hp : fd_p y) (hy : fd_k y < 4831355200913801216) (hl : l.length ≤ 1) (a : mW S w l) : ∃ S', f_M_write_b49 (some 30) (gI w) y (gv_ov h S) = some ((), gv_ov h S') ∧ mX (mWd w) S S' ∧ mW S' w (l ++ wr_b y) := by
  obtain ⟨w1, w2, w3⟩ := fd_wn hp.1 hp.k (by omega)
  have w4 := fd_wn15 hp.1 hp.k hy
  have hLn : fd_n (FP.l2d (FP.d2l y)) := (fd_l2df _).n
  unfold f_M_write_b49 f_M_write_b192 f_M_write_b176
  rw [gk_let_eq, fi_eq _ _ hLn hp.1, fi_ge _ _ hp.1 fd_6_n, fd_6_k]
  unfold wr_b
  by_cases z1 : fd_k (FP.l2d (FP.d2l y)) = fd_k y
  · obtain ⟨S1, e1, e2, e3⟩ := m_digits1 (h := h) (wr_n y) (by omega) hw (by omega) a
    rw [if_pos z1, if_pos z1, w1, gc_30, e1, gk_ca_some]
    exact ⟨S1, rfl, e2, e3⟩
  · rw [if_neg z1, if_neg z1]
    by_cases z2 : fd_k y < 4696837146684686336
    · obtain ⟨p0, p1, p2, p3⟩ := wr_f_ok hp z2
      obtain ⟨v1, v2, v3⟩ := fd_wn p2.1 p2.k p3
      have e0 : FP.dadd (FP.dmul y 0x41cdcd6500000000) 0x3fe0000000000000 = wr_f y := rfl
      generalize hv : wr_n (wr_f y) = v at v1 v2 v3 ⊢
      obtain ⟨S1, e1, e2, e3⟩ := m_digits1 (h := h) (v / 1000000000) (by omega) hw (by omega) a
      have hwl := wd_len (v / 1000000000)
      have q1 : gJ (v : Int) / (1000000000 : Int64) = gJ ((v / 1000000000 : Nat) : Int) := by
        rw [gJl_1000000000, gJ_div _ _ (by omega) (by omega) (by decide) (by decide), Int.natCast_ediv]
        rfl
      have q2 : gJ (v : Int) - gJ ((v / 1000000000 : Nat) : Int) * (1000000000 : Int64) = gJ ((v % 1000000000 : Nat) : Int) := by
        rw [gJl_1000000000, gJ_mul, gJ_sub, show (v : Int) - ((v / 1000000000 : Nat) : Int) * 1000000000 = ((v % 1000000000 : Nat) : Int) by omega]
      rw [if_neg (show ¬ 4696837146684686336 ≤ fd_k y by omega), if_pos z2, fd_dop p1, e0, fd_dop p2.1, v1, gk_let_eq, q1, gc_30, e1, gk_ca_some, q2, gk_let_eq, show (0 : Int64) = gJ 0 from gJl_0, jte_le _ _ _ _ (by omega) (by omega) (by decide) (by decide)]
      by_cases z3 : v % 1000000000 = 0
      · rw [if_pos (by omega), if_pos z3, List.append_nil]
        exact ⟨S1, rfl, e2, e3⟩
      · obtain ⟨S2, f1, f2, f3⟩ := m_put (h := h) e3 hw 46 (by decide) (by rw [List.length_append]; omega)
        obtain ⟨S3, g1, g2, g3⟩ := m_digits9 (h := h) (v % 1000000000) (Nat.mod_lt _ (by decide)) hw (by rw [List.length_append, List.length_append, List.length_singleton]; omega) f3
        have hz : (wq 9 (v % 1000000000)).dropWhile w0 ≠ [] := fun q => z3 ((wq_zero 9 (v % 1000000000) (Nat.mod_lt _ (by decide))).mp q)
        obtain ⟨S4, k1, k2, k3⟩ := mw_strip (h := h) (l ++ wd (v / 1000000000) ++ [46]) hw (wq 9 (v % 1000000000)) gk_F S3 (by rw [wq_len]; unfold gk_F; omega) hz g3
        rw [if_neg (by omega), if_neg z3, gc_30, gI_lit 46, f1, gk_ca_some, gc_30, g1, gk_ca_some]
        refine ⟨S4, k1, ((e2.trans f2).trans g2).trans k2, ?_⟩
        rw [show l ++ (wd (v / 1000000000) ++ 46 :: ((wq 9 (v % 1000000000)).dropWhile w0).reverse) = l ++ wd (v / 1000000000) ++ [46] ++ ((wq 9 (v % 1000000000)).dropWhile w0).reverse by simp]
        exact k3
    · obtain ⟨p1, p2⟩ := wr_h_ok hp hy
      obtain ⟨v1, v2, v3⟩ := fd_wn p1.1 p1.k p2
      have e0 : FP.dadd y 0x3fe0000000000000 = wr_h y := rfl
      obtain ⟨S1, e1, e2, e3⟩ := m_digits1 (h := h) (wr_n (wr_h y)) (by omega) hw (by omega) a
      rw [if_pos (show 4696837146684686336 ≤ fd_k y by omega), if_neg z2, e0, fd_dop p1.1, v1, gc_30, e1, gk_ca_some]
      exact ⟨S1, rfl, e2, e3⟩
theorem mW.nil (S : gv_S) (w : Nat) : mW (gv_uI S 40 w (gI 0)) w [] := ⟨Nat.zero_le _, fun c hc => absurd hc List.not_mem_nil, gu_I2 _ _ _ _, fun k hk => absurd hk (Nat.not_lt_zero k)⟩
def mWq (w a b : Nat) : Prop := mWd w a b ∨ mB a b
theorem m_write {x : UInt64} (hw : w < 9) (hn : fd_n x) (hc : fd_c x = x) (hb : S.1 30 11 = gI f) (hf : f ≤ 8) : ∃ S', f_M_write (some 30) (gI w) x (gv_ov h S) = some ((), gv_ov h S') ∧ mX (mWq w) S S' ∧ S'.1 30 11 = gI (bl f (if -4831355200913801216 < fd_k x ∧ fd_k x < 4831355200913801216 then 0 else 3)) ∧ mW S' w (if -4831355200913801216 < fd_k x ∧ fd_k x < 4831355200913801216 then wr x else []) := by
  obtain ⟨y1, y2⟩ := wr_yn hn
  have x0 : mX (mWd w) S (gv_uI S 40 w (gI 0)) := mX.I _ (Or.inl ⟨rfl, rfl⟩)
  have hb0 : (gv_uI S 40 w (gI 0)).1 30 11 = gI f := by
    rw [gu_I1 _ _ _ _ _ _ (by omega)]
    exact hb
  have a0 := mW.nil S w
  have core : ∃ S', f_M_write_b12 (some 30) (gI w) x (wr_y x) (gv_ov h S) = some ((), gv_ov h S') ∧ mX (mWq w) S S' ∧ S'.1 30 11 = gI (bl f (if -4831355200913801216 < fd_k x ∧ fd_k x < 4831355200913801216 then 0 else 3)) ∧ mW S' w (if -4831355200913801216 < fd_k x ∧ fd_k x < 4831355200913801216 then wr x else []) := by
    unfold f_M_write_b12
    rw [gr_30_14, show (0 : Int32) = gI 0 from rfl, gt_40 hw]
    have zc : ∀ {β : Type} (p q : β), (if Op.cmpValue (FP.dcmp (wr_y x) 0x430c6bf526340000) .g < gI 0 then p else q) = if (-4831355200913801216 < fd_k x ∧ fd_k x < 4831355200913801216) then p else q := fun p q => by
      rw [fj_lt _ _ y1 fd_15_n, fd_15_k, y2]
      by_cases z : fd_k x < 0
      · rw [if_pos z]
        by_cases z2 : -fd_k x < 4831355200913801216
        · rw [if_pos z2, if_pos (by omega)]
        · rw [if_neg z2, if_neg (by omega)]
      · rw [if_neg z]
        by_cases z2 : fd_k x < 4831355200913801216
        · rw [if_pos z2, if_pos (by omega)]
        · rw [if_neg z2, if_neg (by omega)]
    rw [zc]
    by_cases z : (-4831355200913801216 < fd_k x ∧ fd_k x < 4831355200913801216)
    · have yk : 0 ≤ fd_k (wr_y x) ∧ fd_k (wr_y x) < 4831355200913801216 := by rw [y2]; split <;> omega
      have yp : fd_p (wr_y x) := by
        by_cases q : fd_k x < 0
        · refine fd_p_k y1 ?_
          rw [y2, if_pos q]
          omega
        · have : wr_y x = x := if_neg q
          rw [this] at yk y1 ⊢
          exact fd_p_c y1 yk.1 hc
      rw [if_pos z, if_pos z, if_pos z, bl_0, fj_ge _ _ hn fd_0_n, fd_k0]
      unfold wr
      by_cases q : 0 ≤ fd_k x
      · obtain ⟨S1, e1, e2, e3⟩ := m_writeB (h := h) hw yp yk.2 (Nat.zero_le _) a0
        have es : wr_s x = [] := if_neg (by omega)
        rw [if_pos q, e1, es]
        refine ⟨S1, rfl, (x0.trans e2).le fun _ _ q => Or.inl q, ?_, e3⟩
        rw [e2.i (fun q => by unfold mWd at q; omega)]
        exact hb0
      · obtain ⟨S0, p1, p2, p3⟩ := m_put (h := h) a0 hw 45 (by decide) (by decide)
        obtain ⟨S1, e1, e2, e3⟩ := m_writeB (h := h) hw yp yk.2 (by decide) p3
        have es : wr_s x = [45] := if_pos (by omega)
        rw [if_neg q, gc_30, gI_lit 45, p1, gk_ca_some, e1, es]
        refine ⟨S1, rfl, ((x0.trans p2).trans e2).le fun _ _ q => Or.inl q, ?_, e3⟩
        rw [e2.i (fun q => by unfold mWd at q; omega), p2.i (fun q => by unfold mWd at q; omega)]
        exact hb0
    · rw [if_neg z, if_neg z, if_neg z, gc_30, gI_lit 3, m_fail f 3 hb0 hf, gk_ca_some]
      refine ⟨_, rfl, (x0.le fun _ _ q => Or.inl q).trans (mX.I _ (Or.inr ⟨rfl, rfl⟩)), gu_I2 _ _ _ _, a0.X (mX.I (P := mB) _ ⟨rfl, rfl⟩) fun x y q => ?_⟩
      unfold mB at q
      unfold mWd
      omega
  unfold f_M_write
  rw [fi_ge _ _ hn fd_0_n, fd_k0]
  by_cases z : 0 ≤ fd_k x
  · have e : wr_y x = x := if_neg (by omega)
    rw [if_pos z]
    rw [e] at core
    exact core
  · have e : wr_y x = FP.dneg x := if_pos (by omega)
    rw [if_neg z]
    rw [e] at core
    exact core
end MWI
