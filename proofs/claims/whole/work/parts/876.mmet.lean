/-! THE PURE PART: what meets a condition; the reference's 16 to 18 -/
section MME
variable {h : gk_H} {S S0 S1 : gv_S} {x w : gp_C} {l t : List Nat} {rel : Nat}
theorem sgn_cmp (p q : Int) : (if p < q then (-1 : Int) else if q < p then 1 else 0) = sgn (if p < q then -1 else if q < p then 1 else 0) := (sgn_id _ _).symm
theorem m_meets {c : Nat} (hm : mc S c x) (hx : gp_okC x) (hc : c < 256) (hw : mCo S rel w) : f_M_meets (some 30) (gI c) (gv_ov h S) = some (gB (sp_met rel w x), gv_ov h S) := by
  have hk4 := hx.1
  obtain ⟨w17, w18, w19, w20, wok, wn4, wn0, r1, r2, r3⟩ := hw
  have wk4 := wok.1
  have kx : ∀ m : Nat, m < 1000 → (gI x.1 = gI m) = (x.1 = m) := fun m hm => gI_eq _ m (by omega) (by omega)
  have kw : ∀ m : Nat, m < 1000 → (gI w.1 = gI m) = (w.1 = m) := fun m hm => gI_eq _ m (by omega) (by omega)
  have x4 := kx 4 (by decide)
  have x1 := kx 1 (by decide)
  have x2 := kx 2 (by decide)
  have x3 := kx 3 (by decide)
  have x0 := kx 0 (by decide)
  have w1 := kw 1 (by decide)
  have w3 := kw 3 (by decide)
  have nbg : ∀ (e : Bool), f_M_meets_b66 (gB e) (gv_ov h S) = some (gB e, gv_ov h S) := fun e => by
    unfold f_M_meets_b66
    rw [nbB]
  have nbg2 : ∀ (e : Bool), f_M_meets_b104 (gB e) (gv_ov h S) = some (gB e, gv_ov h S) := fun e => by
    unfold f_M_meets_b104
    rw [nbB]
  have nbg3 : ∀ (e : Bool), f_M_meets_b169 (gB e) (gv_ov h S) = some (gB e, gv_ov h S) := fun e => by
    unfold f_M_meets_b169
    rw [nbB]
  have nbg4 : ∀ (e : Bool), f_M_meets_b266 (gB e) (gv_ov h S) = some (gB e, gv_ov h S) := fun e => by
    unfold f_M_meets_b266
    rw [nbB]
  have o1 : (1 : Int32) = gB true := rfl
  have o0 : (0 : Int32) = gB false := rfl
  have e17 : ∀ (m : Nat), m < 1000 → (gI (rel - 8) = gI m) = (rel - 8 = m) := fun m hm => gI_eq _ m (by omega) (by omega)
  have r91 := e17 1 (by decide)
  unfold f_M_meets f_M_meets_b103 f_M_meets_b168
  rw [gr_30_7, ga_35 (by omega), hm.1]
  by_cases z4 : x.1 = 4
  · have es : sp_met rel w x = false := if_pos (Or.inl z4)
    rw [if_pos (show gI x.1 = (4 : Int32) from x4.mpr z4), nb0, es]
    rfl
  · have es : sp_met rel w x = if x.1 ≠ w.1 then (rel == 9 || (sp_byl rel w && (x.1 == 0 && w.2.2.2.isEmpty))) else if sp_byl rel w = true then (if rel = 8 then lk false (lk_tk w.2.2.2) x.2.2.2 else !lk false (lk_tk w.2.2.2) x.2.2.2) else sp_std rel (sp_ord x w) := by
      unfold sp_met
      rw [if_neg (fun q => q.elim z4 wn4)]
    rw [if_neg (show ¬ gI x.1 = (4 : Int32) from fun q => z4 (x4.mp q)), gg_30_18, w18]
    by_cases zw1 : w.1 = 1
    · have ebl : sp_byl rel w = false := by
        unfold sp_byl
        rw [zw1]
        rfl
      rw [if_pos (show gI w.1 = (1 : Int32) from w1.mpr zw1), gr_30_7, ga_35 (by omega), hm.1]
      by_cases zx1 : x.1 = 1
      · have emx : md x = x.2.2.1 := if_pos zx1
        have emw : md w = w.2.2.1 := if_pos zw1
        have eo : sp_ord x w = if fd_k x.2.2.1 < fd_k w.2.2.1 then -1 else if fd_k w.2.2.1 < fd_k x.2.2.1 then 1 else 0 := by
          unfold sp_ord sp_ok2 sp_ok1
          rw [zx1, zw1]
          rfl
        rw [if_pos (show gI x.1 = (1 : Int32) from x1.mpr zx1), gg_30_17, w17, gr_30_8, ga_36 (by omega), hm.2.1, gg_30_19, w19 (by omega), emx, emw, mc_num hx.2.1.n wok.2.1.n, gk_ca_some, sgn_cmp, ← eo, mo_stands rel r1 r2, gk_ca_some, nbg, es, if_neg (show ¬ x.1 ≠ w.1 by omega), ebl, if_neg (show ¬ (false = true) by decide)]
      · rw [if_neg (show ¬ gI x.1 = (1 : Int32) from fun q => zx1 (x1.mp q)), gg_30_17, w17, es, if_pos (show x.1 ≠ w.1 by omega), ebl, Bool.false_and, Bool.or_false]
        by_cases y : rel = 9
        · rw [if_pos (show gI (rel - 8) = (1 : Int32) from r91.mpr (by omega)), o1, nbg, y]
          rfl
        · rw [if_neg (show ¬ gI (rel - 8) = (1 : Int32) from fun q => by have := r91.mp q; omega), o0, nbg]
          have : (rel == 9) = false := by simp [y]
          rw [this]
    · rw [if_neg (show ¬ gI w.1 = (1 : Int32) from fun q => zw1 (w1.mp q)), gg_30_18, w18]
      by_cases zw3 : w.1 = 3
      · have ebl : sp_byl rel w = false := by
          unfold sp_byl
          rw [zw3]
          rfl
        have er8 := r3 zw3
        rw [if_pos (show gI w.1 = (3 : Int32) from w3.mpr zw3), gr_30_7, ga_35 (by omega), hm.1]
        by_cases zx3 : x.1 = 3
        · have emx : md x = FP.i2d (gI x.2.1) := if_neg (by omega)
          have emw : md w = FP.i2d (gI w.2.1) := if_neg (by omega)
          have bx := hx.2.2.2.2.1 zx3
          have bw := wok.2.2.2.2.1 zw3
          have eo : sp_ord x w = (x.2.1 : Int) - w.2.1 := by
            unfold sp_ord sp_ok2 sp_ok1
            rw [zx3, zw3]
            rfl
          have ek : (fd_k (FP.i2d (gI x.2.1)) = fd_k (FP.i2d (gI w.2.1))) = (x.2.1 = w.2.1) := by
            have k1 := i2d_k (a := x.2.1) (b := w.2.1) (by omega) (by omega)
            have k2 := i2d_k (a := w.2.1) (b := x.2.1) (by omega) (by omega)
            exact propext ⟨fun q => by omega, fun q => by rw [q]⟩
          rw [if_pos (show gI x.1 = (3 : Int32) from x3.mpr zx3), gr_30_8, ga_36 (by omega), hm.2.1, gg_30_19, w19 (by omega), emx, emw, fi_eq _ _ (fd_i2df _).n (fd_i2df _).n, es, if_neg (show ¬ x.1 ≠ w.1 by omega), ebl, if_neg (show ¬ (false = true) by decide), eo, er8]
          simp only [ek]
          unfold sp_std
          rw [show (if (8 : Nat) = 8 then decide ((x.2.1 : Int) - w.2.1 = 0) else _) = decide ((x.2.1 : Int) - w.2.1 = 0) from if_pos rfl, o1, o0, nbg2, nbg2]
          by_cases y : x.2.1 = w.2.1
          · rw [if_pos y, decide_eq_true (by omega)]
          · rw [if_neg y, decide_eq_false (by omega)]
        · rw [if_neg (show ¬ gI x.1 = (3 : Int32) from fun q => zx3 (x3.mp q)), o0, nbg2, es, if_pos (show x.1 ≠ w.1 by omega), ebl, Bool.false_and, Bool.or_false, er8]
          rfl
      · have zw2 : w.1 = 2 := by omega
        obtain ⟨o, g20, g21, gT⟩ := w20 zw2
        have hwl := wok.2.2.2.2.2.2.2.2.1
        have hxl := hx.2.2.2.2.2.2.2.2.1
        have hsx := hm.src hx (by omega) h
        have hsw := gT.src h
        rw [if_neg (show ¬ gI w.1 = (3 : Int32) from fun q => zw3 (w3.mp q)), gg_30_17, w17, gI_lit 1, ite_le _ _ _ _ (by omega) (by decide)]
        by_cases zr : rel - 8 ≤ 1
        · have ebl : sp_byl rel w = true := by
            unfold sp_byl
            rw [zw2]
            have : rel = 8 ∨ rel = 9 := by omega
            rcases this with rfl | rfl <;> rfl
          -- behind likeness
          have b220 : ∀ lke : Bool, lke = (decide (x.1 = 2) && lk false (lk_tk w.2.2.2) x.2.2.2) → f_M_meets_b220 (some 30) (gI c) (gB lke) (gv_ov h S) = some (gB (sp_met rel w x), gv_ov h S) := by
            intro lke hlke
            unfold f_M_meets_b220 f_M_meets_b261 f_M_meets_b265
            rw [gg_30_17, w17, gg_30_21, g21, gr_30_7, ga_35 (by omega), hm.1, ite_B, ite_B, o1, o0, nbg4, nbg4, es, ebl]
            by_cases y : rel = 9
            · rw [if_pos (show gI (rel - 8) = gB true from r91.mpr (by omega))]
              subst y
              by_cases zx2 : x.1 = 2
              · rw [decide_eq_true zx2, Bool.true_and] at hlke
                rw [if_neg (show ¬ x.1 ≠ w.1 by omega), if_pos (show true = true from rfl), if_neg (show ¬ (9 = 8) by decide), ← hlke]
                cases lke <;> rfl
              · rw [decide_eq_false zx2, Bool.false_and] at hlke
                rw [if_pos (show x.1 ≠ w.1 by omega), hlke]
                rfl
            · have e8 : rel = 8 := by omega
              rw [if_neg (show ¬ gI (rel - 8) = gB true from fun q => by have := r91.mp q; omega)]
              subst e8
              by_cases zx2 : x.1 = 2
              · rw [decide_eq_true zx2, Bool.true_and] at hlke
                rw [if_neg (show ¬ x.1 ≠ w.1 by omega), if_pos (show true = true from rfl), if_pos (show 8 = 8 from rfl), ← hlke]
                cases lke
                · rw [if_neg (by decide)]
                  by_cases yl : gI w.2.2.2.length = gB false
                  · rw [if_pos yl, if_neg (show ¬ gI x.1 = gB false from fun q => by have := x0.mp q; omega)]
                  · rw [if_neg yl]
                · rw [if_pos rfl]
              · rw [decide_eq_false zx2, Bool.false_and] at hlke
                have el : (gI w.2.2.2.length = gB false) = (w.2.2.2.length = 0) := gI_eq _ 0 (by omega) (by decide)
                rw [if_pos (show x.1 ≠ w.1 by omega), hlke, if_neg (by decide), Bool.true_and]
                by_cases yl : w.2.2.2.length = 0
                · rw [if_pos (el.mpr yl), List.length_eq_zero_iff.mp yl]
                  by_cases yx : x.1 = 0
                  · rw [if_pos (show gI x.1 = gB false from x0.mpr yx), yx]
                    rfl
                  · rw [if_neg (show ¬ gI x.1 = gB false from fun q => yx (x0.mp q))]
                    have : (x.1 == 0) = false := by simp [yx]
                    rw [this]
                    rfl
                · rw [if_neg (fun q => yl (el.mp q))]
                  have : w.2.2.2.isEmpty = false := by
                    cases hq : w.2.2.2 with
                    | nil => rw [hq] at yl; exact absurd rfl yl
                    | cons c t => rfl
                  rw [this, Bool.and_false]
                  rfl
          unfold f_M_meets_b219
          rw [if_pos zr, gr_30_7, ga_35 (by omega), hm.1]
          by_cases zx2 : x.1 = 2
          · have hlk := m_like hsx hsw hxl hwl false
            have hlk' : f_M_isLike (some 30) (some 38) (gI (256 * c)) (gI x.2.2.2.length) (some 41) (gI o) (gI w.2.2.2.length) (0 : Int32) (gv_ov h S) = _ := hlk
            rw [if_pos (show gI x.1 = (2 : Int32) from x2.mpr zx2), gr_30_10, gr_30_9, ga_37 (by omega), hm.2.2.1, gr_30_15, gg_30_20, g20, gg_30_21, g21, gI_lit 256, gI_mul, gc_30, hlk', gk_ca_some, ite_B]
            cases hq : lk false (lk_tk w.2.2.2) x.2.2.2
            · rw [if_neg (by decide), o0]
              exact b220 false (by rw [hq, Bool.and_false])
            · rw [if_pos rfl, show gI 1 = gB true from rfl]
              exact b220 true (by rw [hq, decide_eq_true zx2]; rfl)
          · rw [if_neg (show ¬ gI x.1 = (2 : Int32) from fun q => zx2 (x2.mp q)), o0]
            exact b220 false (by rw [decide_eq_false zx2]; rfl)
        · have ebl : sp_byl rel w = false := by
            have h8 : (rel == 8) = false := by simp; omega
            have h9 : (rel == 9) = false := by simp; omega
            unfold sp_byl
            rw [h8, h9, Bool.or_false, Bool.and_false]
          rw [if_neg zr, gr_30_7, ga_35 (by omega), hm.1, o0, nbg3]
          by_cases zx2 : x.1 = 2
          · have eo : sp_ord x w = nl_ord x.2.2.2 w.2.2.2 := by
              unfold sp_ord sp_ok2 sp_ok1
              rw [zx2, zw2]
              rfl
            rw [if_pos (show gI x.1 = (2 : Int32) from x2.mpr zx2), gg_30_17, w17, gr_30_10, gr_30_9, ga_37 (by omega), hm.2.2.1, gr_30_15, gg_30_20, g20, gg_30_21, g21, gI_lit 256, gI_mul, gc_30, m_cmpW hsx hsw, gk_ca_some, mo_stands rel r1 r2, gk_ca_some, es, if_neg (show ¬ x.1 ≠ w.1 by omega), ebl, if_neg (show ¬ (false = true) by decide), eo, ← o0, ite_B, show gI 1 = gB true from rfl, nbg3]
            cases sp_std rel (nl_ord x.2.2.2 w.2.2.2) <;> rfl
          · have h9 : (rel == 9) = false := by simp; omega
            rw [if_neg (show ¬ gI x.1 = (2 : Int32) from fun q => zx2 (x2.mp q)), es, if_pos (show x.1 ≠ w.1 by omega), ebl, h9, Bool.false_and, Bool.or_false]
end MME
