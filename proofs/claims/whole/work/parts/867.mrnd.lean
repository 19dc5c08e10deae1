/-! THE PURE PART: the reference's roundings, factorials, combinations -/
theorem fd_t10 : ∀ k : Fin 10, 1 ≤ k.val → 1026 * 2 ^ 52 ≤ (fd_t k.val).toNat % 2 ^ 63 ∧ (fd_t k.val).toNat % 2 ^ 63 < 2047 * 2 ^ 52 := by decide +kernel
theorem fd_tdiv {y : UInt64} (hy : fd_f y) (k : Nat) (hk : k ≤ 9) : fd_f (FP.ddiv y (fd_t k)) := by
  by_cases z : k = 0
  · rw [z, show FP.ddiv y (fd_t 0) = y from FP.Core.ddiv_one hy.n]
    exact hy
  · have h1 := (FP.Core.fin_bits y).mp hy
    obtain ⟨b1, b2⟩ := fd_t10 ⟨k, by omega⟩ (by show 1 ≤ k; omega)
    have h2 := FP.Core.ddiv_mag (a := y) (b := fd_t k) (K := 2047) (L := 1026) h1 b1 b2 (by decide) (by decide)
    have h3 : (FP.ddiv y (fd_t k)).toNat % 2 ^ 63 < (2047 + (1074 - 52 - 1) - 1026 + 3) * 2 ^ 52 := h2
    exact (FP.Core.fin_bits _).mpr (by omega)
theorem fd_maxh : fd_f (FP.dadd 0x7fefffffffffffff 0x3fe0000000000000) := by
  have : (FP.dadd 0x7fefffffffffffff 0x3fe0000000000000).toNat < 9218868437227405312 := by decide +kernel
  exact (fd_pf this).1
theorem fd_half_v : 0 ≤ fd_v 0x3fe0000000000000 ∧ fd_v 0x3fe0000000000000 ≤ fd_P := by decide +kernel
/-- a half more than what isn't below 0 is such a number -/
theorem fd_addh {y : UInt64} (hy : fd_f y) (hk : 0 ≤ fd_k y) : fd_f (FP.dadd y 0x3fe0000000000000) ∧ 0 ≤ fd_k (FP.dadd y 0x3fe0000000000000) := by
  have hn := fd_add_n hy fd_half
  have hk2 := ((fd_f_k hy.n).mp hy).2
  obtain ⟨v1, v2⟩ := fd_half_v
  have h6 := FP.Core.sum_ge FP.Core.good_b64 hy fd_half (FP.Core.val64_fits y) (FP.Core.val64_fits 0x3fe0000000000000) (FP.Core.val64_fits 0) fd_0_n (by
    show fd_v 0 ≤ fd_v y + fd_v 0x3fe0000000000000
    have := (fd_kv_0 hy.n).2.2.2.mp hk
    rw [fd_v0]
    omega)
  rw [← FP.Core.val64_dadd] at h6
  have h7 : fd_v 0 ≤ fd_v (FP.dadd y 0x3fe0000000000000) := h6
  rw [fd_v0] at h7
  have h8 := (fd_kv_0 hn).2.2.2.mpr h7
  refine ⟨?_, h8⟩
  by_cases z : fd_k y = 9218868437227405311
  · have : y = 0x7fefffffffffffff := fd_k_inj (by rw [z, fd_max_k]) (by omega)
    rw [this]
    exact fd_maxh
  · have nt : fd_n 0x7feffffffffffffe := (FP.Core.ne_nan _).mpr (by decide)
    have kt : fd_k 0x7feffffffffffffe = 9218868437227405310 := by decide
    have h1 : fd_v y ≤ fd_v 0x7feffffffffffffe := (fd_kv_le hy.n nt).mp (by omega)
    have h2 := fd_max2
    have h3 := FP.Core.sum_le FP.Core.good_b64 hy fd_half (FP.Core.val64_fits y) (FP.Core.val64_fits 0x3fe0000000000000) (FP.Core.val64_fits 0x7fefffffffffffff) fd_max_n (by
      show fd_v y + fd_v 0x3fe0000000000000 ≤ fd_v 0x7fefffffffffffff
      omega)
    rw [← FP.Core.val64_dadd] at h3
    have h4 : fd_v (FP.dadd y 0x3fe0000000000000) ≤ fd_v 0x7fefffffffffffff := h3
    have h5 := (fd_kv_le hn fd_max_n).mpr h4
    rw [fd_max_k] at h5
    exact (fd_f_k hn).mpr ⟨by omega, h5⟩
theorem fd_add0 {y : UInt64} (hy : fd_n y) (hp : fd_p y) : FP.dadd y 0 = y := FP.Core.dadd_zero hy (fun z => by
  have := hp.k
  have h2 := (fd_k_p hp).1
  rw [z] at h2
  revert h2
  decide)
section MRD
variable {h : gk_H} {S S0 S1 : gv_S} {c : gp_C} {vl x y : UInt64} {e : Nat}
theorem mrd_117 (hx : fd_n x) (z : UInt64) (h : gk_H) : f_M_rounded_b117 x z h = some (if fd_k x < 0 then FP.dneg z else z, h) := by
  unfold f_M_rounded_b117 f_M_rounded_b133
  rw [fi_ge _ _ hx fd_0_n, fd_k0]
  by_cases w : fd_k x < 0
  · rw [if_neg (show ¬ 0 ≤ fd_k x by omega), if_pos w]
  · rw [if_pos (show 0 ≤ fd_k x by omega), if_neg w]
theorem fd_p_0 {y : UInt64} (hn : fd_n y) (hk : 0 ≤ fd_k y) (h0 : y = fd_c y) : fd_p y := fd_p_c hn hk h0.symm
/-- the sign put to the end -/
theorem gc_sgn {z : UInt64} (hz : fd_n z) (w : fd_k x < 0) : gc_num (if fd_k x < 0 then FP.dsub 0 z else z) = gc_num (if fd_k x < 0 then FP.dneg z else z) := by
  rw [if_pos w, if_pos w]
  have h1 := fd_neg hz
  have h2 := fd_dneg hz
  by_cases q : fin (FP.dsub 0 z)
  · have q2 : fin (FP.dneg z) := by
      unfold fin at q ⊢
      rw [h1.2.1] at q
      rw [h2.2.1]
      exact q
    rw [gc_num_f q, gc_num_f q2]
    exact gc_n_c (fd_neg_c hz)
  · have q2 : ¬ fin (FP.dneg z) := by
      unfold fin at q ⊢
      rw [h1.2.1] at q
      rw [h2.2.1]
      exact q
    rw [gc_num_i q, gc_num_i q2]
theorem mrd_end (hx : fd_n x) {z : UInt64} (hz : fd_f z) (hb : S.1 30 11 = gI 0) : mNv h S (f_M_rounded_b117 x z (gv_ov h S)) (gc_num (if fd_k x < 0 then FP.dsub 0 z else z)) := by
  rw [mrd_117 hx]
  by_cases w : fd_k x < 0
  · have hf := (fd_dneg hz.n).2.2.2 hz
    rw [gc_sgn hz.n w, if_pos w, gc_num_f ((fin_f hf.n).mpr hf)]
    exact mNv.val hf hb
  · rw [if_neg w, if_neg w, gc_num_f ((fin_f hz.n).mpr hz)]
    exact mNv.val hz hb
theorem mo_rounded (hx : fd_f x) (hcx : fd_c x = x) (p : Int) (h1 : -9 ≤ p) (h2 : p ≤ 9) (half : Bool) (hb : S.1 30 11 = gI 0) : mNv h S (f_M_rounded (some 30) x (gN p) (gB half) (gv_ov h S)) (sp_pla x p (if half = true then 0x3fe0000000000000 else 0)) := by
  have hy := wr_y_f hx
  have hyk := wr_y_k hx.n
  have hyp : fd_p (wr_y x) := by
    by_cases w : fd_k x = 0
    · have e : wr_y x = x := if_neg (by omega)
      rw [e]
      exact fd_p_0 hx.n (by omega) hcx.symm
    · have : 0 < fd_k (wr_y x) := by
        rw [(wr_yn hx.n).2]
        split <;> omega
      exact fd_p_k hy.n this
  have np : ∀ {β : Type} (X Y : β), (if gN p < (0 : Int32) then X else Y) = if p < 0 then X else Y := fun X Y => by
    have e : (gN p < (0 : Int32)) = (p < 0) := by
      rw [show (0 : Int32) = gI 0 from rfl, lt_iff (by decide)]
      have : (gN p).toInt = p := Int32.toInt_ofInt_of_le (by omega) (by omega)
      rw [this]
      rfl
    simp only [e]
  have np' : ∀ {β : Type} (X Y : β), (if (0 : Int32) ≤ gN p then X else Y) = if p < 0 then Y else X := fun X Y => by
    have e : ((0 : Int32) ≤ gN p) = (0 ≤ p) := by
      rw [Int32.le_iff_toInt_le, show (0 : Int32).toInt = 0 from rfl]
      have : (gN p).toInt = p := Int32.toInt_ofInt_of_le (by omega) (by omega)
      rw [this]
    simp only [e]
    by_cases w : p < 0
    · rw [if_neg (by omega), if_pos w]
    · rw [if_pos (by omega), if_neg w]
  have hten := fd_tn p.natAbs (by omega)
  -- what is left behind the first step
  have tail : ∀ v : UInt64, fd_f v → fd_p v → mNv h S (f_M_rounded_b50 (some 30) x (gN p) (gB half) (fd_t p.natAbs) v (gv_ov h S)) (gc_num (if fd_k x < 0 then FP.dsub 0 (s_uns (s_tr (FP.dadd v (if half = true then 0x3fe0000000000000 else 0))) p) else s_uns (s_tr (FP.dadd v (if half = true then 0x3fe0000000000000 else 0))) p)) := by
    intro v hv hvp
    have step2 : ∀ w : UInt64, fd_f w → 0 ≤ fd_k w → mNv h S (f_M_rounded_b78 (some 30) x (gN p) (fd_t p.natAbs) w (gv_ov h S)) (gc_num (if fd_k x < 0 then FP.dsub 0 (s_uns (s_tr w) p) else s_uns (s_tr w) p)) := by
      intro w hw hwk
      have etr : s_tr w = s_fl w := by rw [s_tr_fc hw.n, if_neg (by omega)]
      have hfl := s_fl_f hw
      unfold f_M_rounded_b78 f_M_rounded_b94
      rw [gg_30_11, hb, itl0 0 (by decide), if_pos rfl, mo_floor hw.n, gk_ca_some, etr, np]
      unfold s_uns
      by_cases w0 : p < 0
      · have hm := fd_mul_n hfl hten.1
        rw [if_pos w0, if_pos w0, show (-p).toNat = p.natAbs by omega, fd_dop hm, gc_30]
        by_cases q : fin (FP.dmul (s_fl w) (fd_t p.natAbs))
        · rw [m_stepF hm q, gk_ca_some]
          exact mrd_end hx.n ((fin_f hm).mp q) hb
        · rw [m_stepI hm q hb, gk_ca_some, mrd_117 hx.n]
          have e6 : gc_num (if fd_k x < 0 then FP.dsub 0 (FP.dmul (s_fl w) (fd_t p.natAbs)) else FP.dmul (s_fl w) (fd_t p.natAbs)) = gc_e 6 := by
            by_cases wx : fd_k x < 0
            · rw [if_pos wx]
              exact gc_num_i (fun q2 => q (by
                unfold fin at q2 ⊢
                rw [(fd_neg hm).2.1] at q2
                omega))
            · rw [if_neg wx]
              exact gc_num_i q
          rw [e6]
          refine mNv.fl 6 ?_ (by decide) (by decide)
          split
          · exact (fd_dneg fd_0_n).1
          · exact fd_0_n
      · have hd := fd_tdiv hfl p.natAbs (by omega)
        rw [if_neg w0, if_neg w0, show p.toNat = p.natAbs by omega, fd_dop hd.n]
        exact mrd_end hx.n hd hb
    unfold f_M_rounded_b50
    rw [gg_30_11, hb, itl0 0 (by decide), if_pos rfl, ite_B]
    cases half
    · rw [if_neg (by decide), if_neg (show ¬ (false = true) by decide), fd_add0 hv.n hvp]
      exact step2 v hv hvp.k
    · obtain ⟨a1, a2⟩ := fd_addh hv hvp.k
      rw [if_pos rfl, if_pos rfl, fd_dop a1.n, gc_30, m_stepF a1.n ((fin_f a1.n).mpr a1), gk_ca_some]
      exact step2 _ a1 a2
  have b24 : ∀ k : Int32, k = gI p.natAbs → mNv h S (f_M_rounded_b24 (some 30) x (gN p) (gB half) (wr_y x) k (gv_ov h S)) (sp_pla x p (if half = true then 0x3fe0000000000000 else 0)) := by
    intro k hk
    unfold f_M_rounded_b24 sp_pla s_sca
    rw [hk, m_tens p.natAbs (by omega), gk_ca_some, np, if_neg (show ¬ (p < -9 ∨ 9 < p) by omega)]
    by_cases w0 : p < 0
    · have hd := fd_tdiv hy p.natAbs (by omega)
      have hdp := fd_ddivp hyp hten.1 hten.2.1 hten.2.2
      simp only [if_pos w0, show (-p).toNat = p.natAbs by omega]
      rw [fd_dop hd.n, if_pos (show fin (FP.ddiv (wr_y x) (fd_t p.natAbs)) from (fin_f hd.n).mpr hd)]
      exact tail _ hd hdp
    · have hm := fd_mul_n hy hten.1
      have hmp := fd_mulp hyp hy hten.2.1 hten.1
      simp only [if_neg w0, show p.toNat = p.natAbs by omega]
      rw [fd_dop hm, gc_30]
      by_cases q : fin (FP.dmul (wr_y x) (fd_t p.natAbs))
      · rw [m_stepF hm q, gk_ca_some, if_pos q]
        exact tail _ ((fin_f hm).mp q) hmp
      · rw [m_stepI hm q hb, gk_ca_some, if_neg q]
        unfold f_M_rounded_b50
        rw [gg_30_11, gu11, bad_gt 6 (by decide) (by decide)]
        exact mNv.fl 6 fd_0_n (by decide) (by decide)
  have b12 : mNv h S (f_M_rounded_b12 (some 30) x (gN p) (gB half) (wr_y x) (gv_ov h S)) (sp_pla x p (if half = true then 0x3fe0000000000000 else 0)) := by
    unfold f_M_rounded_b12
    rw [np']
    by_cases w0 : p < 0
    · rw [if_pos w0]
      refine b24 _ ?_
      rw [show gI p.natAbs = gN (p.natAbs : Int) from gI_N _, show (p.natAbs : Int) = -p by omega]
      exact (Int32.ofInt_neg p).symm
    · rw [if_neg w0]
      refine b24 _ ?_
      rw [show gI p.natAbs = gN (p.natAbs : Int) from gI_N _, show (p.natAbs : Int) = p by omega]
  unfold f_M_rounded
  rw [fi_ge _ _ hx.n fd_0_n, fd_k0]
  unfold wr_y at b12
  by_cases w : fd_k x < 0
  · rw [if_neg (show ¬ 0 ≤ fd_k x by omega)]
    rw [if_pos w] at b12
    exact b12
  · rw [if_pos (show 0 ≤ fd_k x by omega)]
    rw [if_neg w] at b12
    exact b12
theorem isR.pla (x : UInt64) (p : Int) (a : UInt64) : isR (sp_pla x p a) := by
  unfold sp_pla
  repeat' split
  all_goals first | exact isR.num _ | exact isR.e (by decide) (by decide)
end MRD
