/-! THE PURE PART: days, the answer (class) -/
section DA2
variable {b n : Nat} {h : gk_H} {S : gv_S} {vs : Nat → gp_V} {f : Nat} {row : List UInt64} {j i : Nat} {l t : List Nat}
theorem gJl_m32768 : (-32768 : Int64) = gJ (-32768) := by decide
theorem d_short (z : Int) (hz : -9007199254740992 < z ∧ z < 9007199254740992) (h : gk_H) : f_Da_isShort (gJ z) h = some (gB (shN z), h) := by
  unfold f_Da_isShort f_Da_isShort_b20 f_Da_isShort_b21 shN
  rw [nb0, nb1, gJl_m32768, gJl_32767, jte_lt _ _ _ _ (by omega) (by omega) (by omega) (by omega), jte_gt _ _ _ _ (by omega) (by omega) (by omega) (by omega)]
  by_cases z1 : z < -32768
  · rw [if_pos z1, decide_eq_false (by omega)]
    rfl
  · rw [if_neg z1]
    by_cases z2 : 32767 < z
    · rw [if_pos z2, decide_eq_false (by omega)]
      rfl
    · rw [if_neg z2, decide_eq_true (by omega)]
      rfl
theorem shN_t {z : Int} (h : shN z = true) : -32768 ≤ z ∧ z ≤ 32767 := of_decide_eq_true h
theorem d_ofDay (hc : gp_cs b h) (z : Int) (hz : -9007199254740992 < z ∧ z < 9007199254740992) : vR b h S (f_Da_ofDay (gJ z) (gv_ov h S)) (sp_oD z) := by
  unfold f_Da_ofDay f_Da_ofDay_b22 f_Da_ofDay_b27 sp_oD
  simp only [ca_id]
  rw [show (0 : Int64) = gJ 0 from gJl_0, gJl_2958465, jte_lt _ _ _ _ (by omega) (by omega) (by omega) (by omega), jte_gt _ _ _ _ (by omega) (by omega) (by omega) (by omega)]
  by_cases z1 : z < 0
  · rw [if_pos z1, if_pos (Or.inl z1)]
    exact vr_err hc 6 (by decide) (by decide)
  · rw [if_neg z1]
    by_cases z2 : 2958465 < z
    · rw [if_pos z2, if_pos (Or.inr z2)]
      exact vr_err hc 6 (by decide) (by decide)
    · rw [if_neg z2, if_neg (show ¬ (z < 0 ∨ 2958465 < z) by omega)]
      exact vr_n hc (fd_l2df _)
theorem d_date (hc : gp_cs b h) (hd : gp_dy h) (y m d : Int) (hy : -9007199254740992 < y ∧ y < 9007199254740992) (hm : -9007199254740992 < m ∧ m < 9007199254740992) (hdd : -9007199254740992 < d ∧ d < 9007199254740992) : vR b h S (f_Da_date (gJ y) (gJ m) (gJ d) (gv_ov h S)) (sp_dat y m d) := by
  unfold f_Da_date f_Da_date_b22 f_Da_date_b45 f_Da_date_b93 sp_dat
  simp only [ca_id]
  have e6 := vr_err (S := S) hc 6 (by decide) (by decide)
  rw [d_short y hy, gk_ca_some, ite_B, d_short m hm, gk_ca_some, ite_B, d_short d hdd, gk_ca_some, ite_B]
  by_cases z1 : shN y = true
  · rw [if_pos z1]
    by_cases z2 : shN m = true
    · rw [if_pos z2]
      by_cases z3 : shN d = true
      · obtain ⟨y1, y2⟩ := shN_t z1
        obtain ⟨m1, m2⟩ := shN_t z2
        obtain ⟨d1, d2⟩ := shN_t z3
        have core : ∀ fy : Int, -32768 ≤ fy → fy ≤ 40000 → vR b h S (gk_let ((((gJ fy - (1900 : Int64)) * (12 : Int64)) + gJ m) - (1 : Int64)) fun x1 => if 0 ≤ lg_cmp x1 (0 : Int64) then (gk_ca (f_Da_firstOf (Int64.toInt32 x1) (gv_ov h S)) fun x2 h1 => f_Da_ofDay (((Int32.toInt64 x2) + gJ d) - (1 : Int64)) h1) else f_Va_ofError (6 : Int32) (gv_ov h S)) (if (fy - 1900) * 12 + m - 1 < 0 then gc_e 6 else sp_oD ((fsN ((fy - 1900) * 12 + m - 1).toNat : Int) + d - 1)) := by
          intro fy f1 f2
          rw [gJl_1900, gJl_12, show (1 : Int64) = gJ 1 from gJl_1, gJ_sub, gJ_mul, gJ_add, gJ_sub, gk_let_eq, show (0 : Int64) = gJ 0 from gJl_0, jte_ge _ _ _ _ (by omega) (by omega) (by omega) (by omega)]
          by_cases z : (fy - 1900) * 12 + m - 1 < 0
          · rw [if_neg (show ¬ 0 ≤ (fy - 1900) * 12 + m - 1 by omega), if_pos z]
            exact e6
          · have hfs := fsN_le (m := ((fy - 1900) * 12 + m - 1).toNat) (by omega)
            rw [if_pos (show 0 ≤ (fy - 1900) * 12 + m - 1 by omega), if_neg z, gJ_nI (by omega) (by omega), d_first hc.1 hd _ (by omega), gk_ca_some, gI_toJ _ (by omega), gJ_add, gJ_sub]
            exact d_ofDay hc _ (by omega)
        rw [if_pos z3, if_pos (show shN y = true ∧ shN m = true ∧ shN d = true from ⟨z1, z2, z3⟩)]
        by_cases z4 : y < 1900
        · have e : ∀ {β : Type} (p q : β), (if 0 ≤ lg_cmp (gJ y) (1900 : Int64) then p else q) = q := fun p q => by
            rw [gJl_1900, jte_ge _ _ _ _ (by omega) (by omega) (by omega) (by omega), if_neg (by omega)]
          have ea : gJ y + (1900 : Int64) = gJ (y + 1900) := by rw [gJl_1900, gJ_add]
          rw [e, if_pos z4, ea]
          exact core _ (by omega) (by omega)
        · have e : ∀ {β : Type} (p q : β), (if 0 ≤ lg_cmp (gJ y) (1900 : Int64) then p else q) = p := fun p q => by
            rw [gJl_1900, jte_ge _ _ _ _ (by omega) (by omega) (by omega) (by omega), if_pos (by omega)]
          rw [e, if_neg z4]
          exact core _ (by omega) (by omega)
      · rw [if_neg z3, if_neg (fun w => z3 w.2.2)]
        exact e6
    · rw [if_neg z2, if_neg (fun w => z2 w.2.1)]
      exact e6
  · rw [if_neg z1, if_neg (fun w => z1 w.1)]
    exact e6
theorem d_dayOf {x : UInt64} (hx : fd_n x) (h : gk_H) : f_Da_dayOf x h = some (match dyo x with | none => (-1 : Int32) | some d => gI d, h) := by
  have hb := fun d => dyo_b hx (d := d)
  unfold f_Da_dayOf f_Da_dayOf_b19 f_Da_dayOf_b20
  rw [fi_lt _ _ hx fd_0_n, fi_ge _ _ hx fd_dayc.n, fd_k0]
  by_cases z1 : fd_k x < 0
  · rw [if_pos z1, show dyo x = none from if_pos (Or.inl z1)]
  · rw [if_neg z1]
    by_cases z2 : fd_k 0x4146924100000000 ≤ fd_k x
    · rw [if_pos z2, show dyo x = none from if_pos (Or.inr z2)]
    · have e : dyo x = some (fd_T x).toNat := if_neg (by omega)
      obtain ⟨d1, d2⟩ := hb _ e
      rw [if_neg z2, e, d1]
theorem d_partOfDate (hc : gp_cs b h) (hd : gp_dy h) {x : UInt64} (hx : fd_n x) (hf : f = 82 ∨ f = 83 ∨ f = 84) : vR b h S (f_Da_partOfDate (gI f) x (gv_ov h S)) (sp_pd f x) := by
  unfold f_Da_partOfDate sp_pd
  simp only [ca_id]
  rw [d_dayOf hx, gk_ca_some]
  cases e : dyo x with
  | none =>
    dsimp only
    rw [if_pos rfl]
    exact vr_err hc 6 (by decide) (by decide)
  | some d =>
    obtain ⟨-, d2⟩ := dyo_b hx e
    have hmo := sp_mo_le d
    have hfs := fsN_le (m := sp_mo d) (by omega)
    dsimp only
    rw [gN_m1 (by omega), d_month hc.1 hd d (by omega), gk_ca_some, gI_lit 82, gI_lit 83, ite_eq _ _ _ _ (by omega) (by decide), ite_eq _ _ _ _ (by omega) (by decide), gI_lit 1900, gI_lit 12, gI_mod _ _ (by omega) (by decide) (by decide), gI_div _ _ (by omega) (by decide) (by decide), gI_add, d_first hc.1 hd _ (by omega), gk_ca_some, show gI (sp_mo d % 12) + (1 : Int32) = gI (sp_mo d % 12 + 1) from gI_add _ 1, gI_subN, show gN ((d : Int) - fsN (sp_mo d)) + (1 : Int32) = gN ((d : Int) - fsN (sp_mo d) + 1) from gN_add _ 1]
    by_cases z1 : f = 82
    · rw [if_pos z1, if_pos z1]
      exact vr_n hc (fd_i2df _)
    · rw [if_neg z1, if_neg z1]
      by_cases z2 : f = 83
      · rw [if_pos z2, if_pos z2]
        exact vr_n hc (fd_i2df _)
      · rw [if_neg z2, if_neg z2]
        exact vr_n hc (fd_i2df _)
theorem f_fmod7 (d c : Nat) (hd : d < 100000000) (hc : c = 1 ∨ c = 2) (h : gk_H) : f_Ma_floorMod (gI d - gI c) (7 : Int32) h = some (gI ((d + (7 - c)) % 7), h) := by
  by_cases z : c ≤ d
  · rw [gI_sub _ _ z, gI_lit 7, f_fmod _ _ (by omega) (by decide) (by decide), show (d - c) % 7 = (d + (7 - c)) % 7 by omega]
  · rcases hc with rfl | rfl
    · have : d = 0 := by omega
      subst this
      rfl
    · have : d = 0 ∨ d = 1 := by omega
      rcases this with rfl | rfl
      · rfl
      · rfl
theorem d_weekday (hc : gp_cs b h) {x : UInt64} (hx : fd_n x) (ma : Int) (hm : -9007199254740992 < ma ∧ ma < 9007199254740992) : vR b h S (f_Da_weekday x (gJ ma) (gv_ov h S)) (sp_wd x ma) := by
  unfold f_Da_weekday f_Da_weekday_b26 f_Da_weekday_b76 sp_wd
  simp only [ca_id]
  rw [d_dayOf hx, gk_ca_some]
  have e6 := vr_err (S := S) hc 6 (by decide) (by decide)
  cases e : dyo x with
  | none =>
    dsimp only
    rw [if_pos rfl]
    exact e6
  | some d =>
    obtain ⟨-, d2⟩ := dyo_b hx e
    dsimp only
    rw [gN_m1 (by omega), show (1 : Int64) = gJ 1 from gJl_1, gJl_3, gJl_2, jte_lt _ _ _ _ (by omega) (by omega) (by omega) (by omega), jte_le _ _ _ _ (by omega) (by omega) (by omega) (by omega), jte_eq _ _ _ _ (by omega) (by omega) (by omega) (by omega)]
    by_cases z1 : ma < 1
    · rw [if_pos z1, if_pos (Or.inl z1)]
      exact e6
    · rw [if_neg z1]
      by_cases z2 : ma ≤ 3
      · rw [if_pos z2, if_neg (show ¬ (ma < 1 ∨ 3 < ma) by omega)]
        by_cases z3 : ma = 1
        · rw [if_pos z3, if_pos z3, show gI d - (1 : Int32) = gI d - gI 1 from rfl, f_fmod7 d 1 (by omega) (Or.inl rfl), gk_ca_some, show gI ((d + (7 - 1)) % 7) + (1 : Int32) = gI ((d + 6) % 7 + 1) from gI_add _ 1]
          exact vr_n hc (fd_i2df _)
        · rw [if_neg z3, if_neg z3, show gI d - (2 : Int32) = gI d - gI 2 from rfl, f_fmod7 d 2 (by omega) (Or.inr rfl), gk_ca_some, jte_eq _ _ _ _ (by omega) (by omega) (by omega) (by omega)]
          by_cases z4 : ma = 2
          · rw [if_pos z4, if_pos z4, show gI ((d + (7 - 2)) % 7) + (1 : Int32) = gI ((d + 5) % 7 + 1) from gI_add _ 1]
            exact vr_n hc (fd_i2df _)
          · rw [if_neg z4, if_neg z4, show gI ((d + (7 - 2)) % 7) + (0 : Int32) = gI ((d + 5) % 7 + 0) from gI_add _ 0]
            exact vr_n hc (fd_i2df _)
      · rw [if_neg z2, if_pos (Or.inr (by omega))]
        exact e6
theorem f_minN (x y : Int) (h1 : -2147483648 ≤ x) (h2 : x < 2147483648) (h3 : -2147483648 ≤ y) (h4 : y < 2147483648) (h : gk_H) : f_Ma_min_II (gN x) (gN y) h = some (gN (min x y), h) := by
  unfold f_Ma_min_II f_Ma_min_II_b10
  rw [nte_lt _ _ _ _ (by omega) (by omega) (by omega) (by omega)]
  by_cases z : y < x
  · rw [if_pos z, show min x y = y by omega]
  · rw [if_neg z, show min x y = x by omega]
theorem gN_toJ (x : Int) (h1 : -2147483648 ≤ x) (h2 : x < 2147483648) : Int32.toInt64 (gN x) = gJ x := by
  apply Int64.toInt.inj
  rw [Int32.toInt_toInt64, gN_toInt x h1 h2, gJ_toInt x (by omega) (by omega)]
theorem d_monthsOn (hc : gp_cs b h) (hd : gp_dy h) {x : UInt64} (hx : fd_n x) (mo : Int) (hm : -9007199254740992 < mo ∧ mo < 9007199254740992) (hf : f = 86 ∨ f = 87) : vR b h S (f_Da_monthsOn (gI f) x (gJ mo) (gv_ov h S)) (sp_mon f x mo) := by
  unfold f_Da_monthsOn f_Da_monthsOn_b19 f_Da_monthsOn_b97 sp_mon
  simp only [ca_id]
  rw [d_dayOf hx, gk_ca_some]
  have e6 := vr_err (S := S) hc 6 (by decide) (by decide)
  cases e : dyo x with
  | none =>
    dsimp only
    rw [if_pos rfl]
    exact e6
  | some d =>
    obtain ⟨-, d2⟩ := dyo_b hx e
    have hmo := sp_mo_le d
    dsimp only
    rw [gN_m1 (by omega), d_short mo hm, gk_ca_some, ite_B]
    by_cases z1 : shN mo = true
    · obtain ⟨m1, m2⟩ := shN_t z1
      have e0 : gI (sp_mo d) + Int64.toInt32 (gJ mo) = gN ((sp_mo d : Int) + mo) := by rw [gJ_toIN _ (by omega) (by omega), gI_N, gN_add]
      have z0 : ∀ {β : Type} (p q : β), (if (0 : Int32) ≤ gN ((sp_mo d : Int) + mo) then p else q) = if (sp_mo d : Int) + mo < 0 then q else p := fun p q => by
        rw [show (0 : Int32) = gN 0 from rfl, nte_le _ _ _ _ (by decide) (by decide) (by omega) (by omega)]
        by_cases z : (sp_mo d : Int) + mo < 0
        · rw [if_pos z, if_neg (by omega)]
        · rw [if_neg z, if_pos (by omega)]
      rw [if_pos z1, if_pos z1, d_month hc.1 hd d (by omega), gk_ca_some, e0, gk_let_eq, z0]
      by_cases z2 : (sp_mo d : Int) + mo < 0
      · rw [if_pos z2, if_pos z2]
        exact e6
      · rw [if_neg z2, if_neg z2]
        obtain ⟨M, hM⟩ : ∃ M : Nat, (sp_mo d : Int) + mo = M := ⟨((sp_mo d : Int) + mo).toNat, by omega⟩
        rw [hM, ← gI_N, Int.toNat_natCast]
        have f1 := fsN_le (m := M) (by omega)
        have f2 := fsN_le (m := M + 1) (by omega)
        have f3 := fsN_le (m := sp_mo d) (by omega)
        rw [d_first hc.1 hd M (by omega), gk_ca_some, show gI M + (1 : Int32) = gI (M + 1) from gI_add M 1, d_first hc.1 hd (M + 1) (by omega), gk_ca_some, show gI (fsN (M + 1)) - (1 : Int32) = gN ((fsN (M + 1) : Int) - 1) from gI_subN _ 1, gk_let_eq, gI_lit 87, ite_eq _ _ _ _ (by omega) (by decide), d_first hc.1 hd (sp_mo d) (by omega), gk_ca_some, gI_add, gI_subN, f_minN _ _ (by omega) (by omega) (by omega) (by omega), gk_ca_some, gN_toJ _ (by omega) (by omega), gN_toJ _ (by omega) (by omega)]
        by_cases z3 : f = 87
        · rw [if_pos z3, if_pos z3]
          exact d_ofDay hc _ (by omega)
        · rw [if_neg z3, if_neg z3, show ((fsN M + d : Nat) : Int) = (fsN M : Int) + d by omega]
          exact d_ofDay hc _ (by omega)
    · rw [if_neg z1, if_neg z1]
      exact e6
theorem fd_86400 : fd_f 0x40f5180000000000 ∧ fd_k 0x40f5180000000000 ≠ 0 := ⟨(fd_pf (by decide)).1, by decide⟩
theorem fd_half : fd_f 0x3fe0000000000000 := (fd_pf (by decide)).1
theorem d_time (hc : gp_cs b h) (p q r : Int) (hp : -9007199254740992 < p ∧ p < 9007199254740992) (hq : -9007199254740992 < q ∧ q < 9007199254740992) (hr : -9007199254740992 < r ∧ r < 9007199254740992) : vR b h S (f_Da_time (gJ p) (gJ q) (gJ r) (gv_ov h S)) (sp_tim p q r) := by
  unfold f_Da_time f_Da_time_b44 sp_tim
  simp only [ca_id]
  have e6 := vr_err (S := S) hc 6 (by decide) (by decide)
  rw [show (0 : Int64) = gJ 0 from gJl_0, gJl_32767, gJl_3600, gJl_60, gJl_86400, gJ_mul, gJ_mul, gJ_add, gJ_add, gk_let_eq, jte_lt _ _ _ _ (by omega) (by omega) (by omega) (by omega), jte_gt _ _ _ _ (by omega) (by omega) (by omega) (by omega), jte_lt _ _ _ _ (by omega) (by omega) (by omega) (by omega), jte_gt _ _ _ _ (by omega) (by omega) (by omega) (by omega), jte_lt _ _ _ _ (by omega) (by omega) (by omega) (by omega), jte_le _ _ _ _ (by omega) (by omega) (by omega) (by omega)]
  by_cases z1 : p < 0
  · rw [if_pos z1, if_pos (Or.inl z1)]
    exact e6
  · rw [if_neg z1]
    by_cases z2 : 32767 < p
    · rw [if_pos z2, if_pos (Or.inr (Or.inl z2))]
      exact e6
    · rw [if_neg z2]
      by_cases z3 : q < 0
      · rw [if_pos z3, if_pos (Or.inr (Or.inr (Or.inl z3)))]
        exact e6
      · rw [if_neg z3]
        by_cases z4 : 32767 < q
        · rw [if_pos z4, if_pos (Or.inr (Or.inr (Or.inr (Or.inl z4))))]
          exact e6
        · rw [if_neg z4]
          by_cases z5 : r < 0
          · rw [if_pos z5, if_pos (Or.inr (Or.inr (Or.inr (Or.inr (Or.inl z5)))))]
            exact e6
          · rw [if_neg z5]
            by_cases z6 : r ≤ 32767
            · have hn := fd_ddiv (fd_l2df (gJ ((3600 * p + 60 * q + r) % 86400))).n fd_86400.1 fd_86400.2
              rw [if_pos z6, if_neg (show ¬ (p < 0 ∨ 32767 < p ∨ q < 0 ∨ 32767 < q ∨ r < 0 ∨ 32767 < r) by omega), gJ_div _ _ (by omega) (by omega) (by decide) (by decide), gJ_mul, gJ_sub, show 3600 * p + 60 * q + r - (3600 * p + 60 * q + r) / 86400 * 86400 = (3600 * p + 60 * q + r) % 86400 by omega, fd_dop hn]
              exact vr_num hc hn
            · rw [if_neg z6, if_pos (Or.inr (Or.inr (Or.inr (Or.inr (Or.inr (by omega))))))]
              exact e6
theorem d_partOfDay (hc : gp_cs b h) {x : UInt64} (hx : fd_f x) (hf : f = 89 ∨ f = 90 ∨ f = 91) : vR b h S (f_Da_partOfDay (gI f) x (gv_ov h S)) (sp_pod f x) := by
  unfold f_Da_partOfDay f_Da_partOfDay_b39 sp_pod
  simp only [ca_id]
  have n1 := fd_sub_n hx (s_fl_f hx)
  have n2 := fd_mul_n' n1 fd_86400.1 fd_86400.2
  have n3 := fd_add_n' n2 fd_half
  rw [fi_ge _ _ hx.n fd_0_n, fd_k0, m_floor hx.n, gk_ca_some, fd_dop n1, fd_dop n2, fd_dop n3, gk_let_eq, gI_lit 89, gI_lit 90, ite_eq _ _ _ _ (by omega) (by decide), ite_eq _ _ _ _ (by omega) (by decide), ite_eq _ _ _ _ (by omega) (by decide), ite_eq _ _ _ _ (by omega) (by decide)]
  by_cases z : fd_k x < 0
  · rw [if_neg (show ¬ 0 ≤ fd_k x by omega), if_pos z]
    exact vr_err hc 6 (by decide) (by decide)
  · rw [if_pos (show 0 ≤ fd_k x by omega), if_neg z]
    have core : ∀ y : Int32, vR b h S (if f = 89 then f_Va_ofNumber (FP.i2d (y / (3600 : Int32))) (gv_ov h S) else if f = 90 then f_Va_ofNumber (FP.i2d ((y / (60 : Int32)) - (y / (60 : Int32)) / (60 : Int32) * (60 : Int32))) (gv_ov h S) else f_Va_ofNumber (FP.i2d (y - y / (60 : Int32) * (60 : Int32))) (gv_ov h S)) (if f = 89 then gc_n (FP.i2d (y / (3600 : Int32))) else if f = 90 then gc_n (FP.i2d ((y / (60 : Int32)) - (y / (60 : Int32)) / (60 : Int32) * (60 : Int32))) else gc_n (FP.i2d (y - y / (60 : Int32) * (60 : Int32)))) := by
      intro y
      by_cases z1 : f = 89
      · rw [if_pos z1, if_pos z1]
        exact vr_n hc (fd_i2df _)
      · rw [if_neg z1, if_neg z1]
        by_cases z2 : f = 90
        · rw [if_pos z2, if_pos z2]
          exact vr_n hc (fd_i2df _)
        · rw [if_neg z2, if_neg z2]
          exact vr_n hc (fd_i2df _)
    unfold s_sec
    by_cases zz : FP.d2i (FP.dadd (FP.dmul (FP.dsub x (s_fl x)) 0x40f5180000000000) 0x3fe0000000000000) = (86400 : Int32)
    · rw [if_pos zz, if_pos zz]
      exact core 0
    · rw [if_neg zz, if_neg zz]
      exact core _
theorem d_answer (a : ga b h S vs n) (hc : gp_cs b h) (hd : gp_dy h) (h1 : 81 ≤ f) (h2 : f ≤ 91) (hn1 : 1 ≤ n) (hn2 : f = 86 ∨ f = 87 → 2 ≤ n) (hn3 : f = 81 ∨ f = 88 → 3 ≤ n) : cR b h S (f_Da_answer (gI f) (some 20) (gv_ov h (gA S 0 row))) (gV_1 (sp_da f vs n)) 1 7 := by
  have hn := a.1
  have hfs : f = 81 ∨ f = 82 ∨ f = 83 ∨ f = 84 ∨ f = 85 ∨ f = 86 ∨ f = 87 ∨ f = 88 ∨ f = 89 ∨ f = 90 ∨ f = 91 := by omega
  obtain ⟨a1, a2, a3⟩ := a.sN (k := 0) (by omega)
  obtain ⟨w1, w2, w3⟩ := a.sW (k := 0) (by omega)
  have hA0 : f_Ar_amount (some 20) (0 : Int32) (gv_ov h (gA S 0 row)) = some ((sN vs 0).2, gv_ov h (gA S (sN vs 0).1 row)) := a_amountN (f := 0) (row := row) a hc.1 0 (by omega) (by decide)
  have hW0 : f_Ar_whole (some 20) (0 : Int32) (gv_ov h (gA S 0 row)) = some (gJ (sw_x vs 0), gv_ov h (gA S (sW vs 0) row)) := a_wholeW a hc.1 0 (by omega) (by omega)
  unfold f_Da_answer f_Da_answer_b79 f_Da_answer_b104 f_Da_answer_b138
  simp only [ca_id]
  have three : 3 ≤ n → ∀ (F : Int64 → Int64 → Int64 → gk_H → Option (Option Nat × gk_H)) (c : gp_C), (∀ e, vR b h (gA S e row) (F (gJ (sw_x vs 0)) (gJ (sw_x vs 1)) (gJ (sw_x vs 2)) (gv_ov h (gA S e row))) c) → cR b h S (gk_cv (gv_ov h (gA S 0 row)) (some 20) 4 (f_Ar_whole (some 20) (0 : Int32) (gv_ov h (gA S 0 row))) fun x1 h1 => gk_cv h1 (some 20) 4 (f_Ar_whole (some 20) (1 : Int32) h1) fun x2 h2 => gk_cv h2 (some 20) 4 (f_Ar_whole (some 20) (2 : Int32) h2) fun x3 h3 => F x1 x2 x3 h3) (gV_1 (sx (bl (bl (sW vs 0) (sW vs 1)) (sW vs 2)) c)) 1 7 := fun h3 F c hF => by
    obtain ⟨x1, x2, x3⟩ := a.sW (k := 1) (by omega)
    obtain ⟨y1, y2, y3⟩ := a.sW (k := 2) (by omega)
    have e1 : f_Ar_whole (some 20) (1 : Int32) (gv_ov h (gA S (sW vs 0) row)) = _ := a_wholeW a hc.1 1 (by omega) w1
    have e2 : f_Ar_whole (some 20) (2 : Int32) (gv_ov h (gA S (bl (sW vs 0) (sW vs 1)) row)) = _ := a_wholeW a hc.1 2 (by omega) (bl_le w1 x1)
    rw [gc_20, hW0, gk_ca_some, gc_20, e1, gk_ca_some, gc_20, e2, gk_ca_some]
    exact cR.v (hF _) (bl_le (bl_le w1 x1) y1)
  have part : f = 82 ∨ f = 83 ∨ f = 84 → cR b h S (gk_cv (gv_ov h (gA S 0 row)) (some 20) 4 (f_Ar_amount (some 20) (0 : Int32) (gv_ov h (gA S 0 row))) fun x1 h1 => f_Da_partOfDate (gI f) x1 h1) (gV_1 (sx (sN vs 0).1 (sp_pd f (sN vs 0).2))) 1 7 := fun hh => by
    rw [gc_20, hA0, gk_ca_some]
    exact cR.v (d_partOfDate hc hd a1.n hh) a3
  have pday : f = 89 ∨ f = 90 ∨ f = 91 → cR b h S (gk_cv (gv_ov h (gA S 0 row)) (some 20) 4 (f_Ar_amount (some 20) (0 : Int32) (gv_ov h (gA S 0 row))) fun x1 h1 => f_Da_partOfDay (gI f) x1 h1) (gV_1 (sx (sN vs 0).1 (sp_pod f (sN vs 0).2))) 1 7 := fun hh => by
    rw [gc_20, hA0, gk_ca_some]
    exact cR.v (d_partOfDay hc a1 hh) a3
  have mons : f = 86 ∨ f = 87 → cR b h S (gk_cv (gv_ov h (gA S 0 row)) (some 20) 4 (f_Ar_amount (some 20) (0 : Int32) (gv_ov h (gA S 0 row))) fun x1 h1 => gk_cv h1 (some 20) 4 (f_Ar_whole (some 20) (1 : Int32) h1) fun x2 h2 => f_Da_monthsOn (gI f) x1 x2 h2) (gV_1 (sx (bl (sN vs 0).1 (sW vs 1)) (sp_mon f (sN vs 0).2 (sw_x vs 1)))) 1 7 := fun hh => by
    have h2' := hn2 hh
    obtain ⟨x1, x2, x3⟩ := a.sW (k := 1) (by omega)
    have e1 : f_Ar_whole (some 20) (1 : Int32) (gv_ov h (gA S (sN vs 0).1 row)) = _ := a_wholeW a hc.1 1 (by omega) a3
    rw [gc_20, hA0, gk_ca_some, gc_20, e1, gk_ca_some]
    exact cR.v (d_monthsOn hc hd a1.n _ ⟨x2, x3⟩ hh) (bl_le a3 x1)
  rcases hfs with rfl | rfl | rfl | rfl | rfl | rfl | rfl | rfl | rfl | rfl | rfl
  · rw [if_pos (by decide)]
    have h3 := hn3 (by decide)
    obtain ⟨x1, x2, x3⟩ := a.sW (k := 1) (by omega)
    obtain ⟨y1, y2, y3⟩ := a.sW (k := 2) (by omega)
    exact three h3 _ _ fun e => d_date hc hd _ _ _ ⟨w2, w3⟩ ⟨x2, x3⟩ ⟨y2, y3⟩
  · rw [if_neg (by decide), if_pos (by decide)]
    exact part (by decide)
  · rw [if_neg (by decide), if_neg (by decide), if_pos (by decide)]
    exact part (by decide)
  · rw [if_neg (by decide), if_neg (by decide), if_neg (by decide), if_pos (by decide)]
    exact part (by decide)
  · rw [if_neg (by decide), if_neg (by decide), if_neg (by decide), if_neg (by decide), if_pos (by decide)]
    obtain ⟨o1, o2, o3⟩ := oX_b a 1
    have ho : f_Ar_wholeOr (some 20) (1 : Int32) (1 : Int64) (gv_ov h (gA S (sN vs 0).1 row)) = _ := a_or1 (row := row) a hc.1 1 (by omega) a3
    rw [gc_20, hA0, gk_ca_some, gc_20, ho, gk_ca_some]
    exact cR.v (d_weekday hc a1.n _ ⟨o1, o2⟩) (bl_le a3 o3)
  · rw [if_neg (by decide), if_neg (by decide), if_neg (by decide), if_neg (by decide), if_neg (by decide), if_pos (by decide)]
    exact mons (by decide)
  · rw [if_neg (by decide), if_neg (by decide), if_neg (by decide), if_neg (by decide), if_neg (by decide), if_neg (by decide), if_pos (by decide)]
    exact mons (by decide)
  · rw [if_neg (by decide), if_neg (by decide), if_neg (by decide), if_neg (by decide), if_neg (by decide), if_neg (by decide), if_neg (by decide), if_pos (by decide)]
    have h3 := hn3 (by decide)
    obtain ⟨x1, x2, x3⟩ := a.sW (k := 1) (by omega)
    obtain ⟨y1, y2, y3⟩ := a.sW (k := 2) (by omega)
    exact three h3 _ _ fun e => d_time hc _ _ _ ⟨w2, w3⟩ ⟨x2, x3⟩ ⟨y2, y3⟩
  · rw [if_neg (by decide), if_neg (by decide), if_neg (by decide), if_neg (by decide), if_neg (by decide), if_neg (by decide), if_neg (by decide), if_neg (by decide), if_pos (by decide)]
    exact pday (by decide)
  · rw [if_neg (by decide), if_neg (by decide), if_neg (by decide), if_neg (by decide), if_neg (by decide), if_neg (by decide), if_neg (by decide), if_neg (by decide), if_neg (by decide), if_pos (by decide)]
    exact pday (by decide)
  · rw [if_neg (by decide), if_neg (by decide), if_neg (by decide), if_neg (by decide), if_neg (by decide), if_neg (by decide), if_neg (by decide), if_neg (by decide), if_neg (by decide), if_neg (by decide), if_pos (by decide)]
    exact pday (by decide)
end DA2
