/-! THE PURE PART: the reference compares -/
def sgn (z : Int) : Int := if z < 0 then -1 else if 0 < z then 1 else 0
section MCM
variable {h : gk_H} {S : gv_S} {w : Nat} {l : List Nat} {V : gp_V} {f : Nat}
theorem mw_cmp {a b : Nat} {l t : List Nat} (hl : l.length ≤ 255) (ht : t.length ≤ 255) (ha : a < 272) (hb : b < 272) (la : ∀ k, k < l.length → S.1 38 (256 * a + k) = gI (l.getD k 0)) (tb : ∀ k, k < t.length → S.1 38 (256 * b + k) = gI (t.getD k 0)) (hl8 : ∀ c ∈ l, c < 128) (ht8 : ∀ c ∈ t, c < 128) : ∀ (l' p t' q : List Nat) (fu : Nat), l = p ++ l' → t = q ++ t' → p.length = q.length → l'.length < fu → f_M_compareWords_b3 fu (some 38) (gI (256 * a)) (gI l.length) (some 38) (gI (256 * b)) (gI t.length) (gI p.length) (gv_ov h S) = some (gN (sgn (nl_ord l' t')), gv_ov h S) := by
  intro l'
  have fin : ∀ (z : Int), (z = (l.length : Int) - t.length) → f_M_compareWords_b66 (gI l.length) (gI t.length) (gv_ov h S) = some (gN (sgn z), gv_ov h S) := by
    intro z hz
    unfold f_M_compareWords_b66 f_M_compareWords_b87 sgn
    rw [ite_le _ _ _ _ (by omega) (by omega), ite_le _ _ _ _ (by omega) (by omega)]
    by_cases y : t.length ≤ l.length
    · rw [if_pos y]
      by_cases y2 : l.length ≤ t.length
      · rw [if_pos y2, if_neg (by omega), if_neg (by omega)]
        rfl
      · rw [if_neg y2, if_neg (by omega), if_pos (by omega)]
        rfl
    · rw [if_neg y, if_pos (by omega), gI_m1B]
  induction l' with
  | nil =>
    intro p t' q fu e1 e2 e3 hf
    obtain ⟨fu, rfl⟩ : ∃ f, fu = f + 1 := ⟨fu - 1, by omega⟩
    have k1 : l.length = p.length := by rw [e1]; simp
    have k2 : t.length = q.length + t'.length := by rw [e2]; simp
    rw [f_M_compareWords_b3]
    dsimp only
    rw [ite_le _ _ _ _ (by omega) (by omega), if_pos (by omega)]
    exact fin _ (by show -(t'.length : Int) = _; omega)
  | cons c l' ih =>
    intro p t' q fu e1 e2 e3 hf
    obtain ⟨fu, rfl⟩ : ∃ f, fu = f + 1 := ⟨fu - 1, by omega⟩
    rw [List.length_cons] at hf
    have k1 : l.length = p.length + (l'.length + 1) := by rw [e1]; simp
    rw [f_M_compareWords_b3]
    dsimp only
    rw [ite_le _ _ _ _ (by omega) (by omega), if_neg (by omega)]
    cases t' with
    | nil =>
      have k2 : t.length = q.length := by rw [e2]; simp
      rw [ite_le _ _ _ _ (by omega) (by omega), if_pos (by omega)]
      exact fin _ (by show ((c :: l').length : Int) = _; rw [List.length_cons]; omega)
    | cons d t' =>
      have k2 : t.length = q.length + (t'.length + 1) := by rw [e2]; simp
      have gl : l.getD p.length 0 = c := by rw [e1]; exact gp_mid p l' c
      have gt : t.getD p.length 0 = d := by rw [e2, e3]; exact gp_mid q t' d
      have c8 := hl8 c (by rw [e1]; simp)
      have d8 := ht8 d (by rw [e2]; simp)
      have ih' := ih (p ++ [c]) t' (q ++ [d]) fu (by rw [e1]; simp) (by rw [e2]; simp) (by simp [e3]) (by omega)
      rw [List.length_append, List.length_singleton] at ih'
      have g1 := nl_g_lt c8
      have g2 := nl_g_lt d8
      unfold f_M_compareWords_b59
      rw [ite_le _ _ _ _ (by omega) (by omega), if_neg (by omega), gI_add, ga_38 (by omega), la _ (by omega), gl, m_great c c8, gk_ca_some, gI_add, ga_38 (by omega), tb _ (by omega), gt, m_great d d8, gk_ca_some, ite_eq _ _ _ _ (by omega) (by omega), gk_let_eq, show gI p.length + (1 : Int32) = gI (p.length + 1) from gI_add _ 1, ite_le _ _ _ _ (by omega) (by omega), nl_ord]
      by_cases y : nl_g c = nl_g d
      · rw [if_pos y, if_pos y]
        exact ih'
      · rw [if_neg y, if_neg y]
        unfold sgn
        by_cases y2 : nl_g d ≤ nl_g c
        · rw [if_pos y2, if_neg (by omega), if_pos (by omega)]
          rfl
        · rw [if_neg y2, if_pos (by omega), gI_m1B]
theorem mc_num {x y : UInt64} (hx : fd_n x) (hy : fd_n y) (h : gk_H) : f_M_compareNumbers x y h = some (gN (if fd_k x < fd_k y then -1 else if fd_k y < fd_k x then 1 else 0), h) := by
  unfold f_M_compareNumbers f_M_compareNumbers_b21
  rw [fi_ge _ _ hx hy, fi_le _ _ hx hy]
  by_cases z : fd_k x < fd_k y
  · rw [if_neg (by omega), if_pos z, gI_m1B]
  · rw [if_pos (by omega), if_neg z]
    by_cases z2 : fd_k y < fd_k x
    · rw [if_neg (by omega), if_pos z2]
      rfl
    · rw [if_pos (by omega), if_neg z2]
      rfl
theorem sgn_id (p q : Prop) [Decidable p] [Decidable q] : sgn (if p then -1 else if q then 1 else 0) = (if p then -1 else if q then 1 else 0) := by
  unfold sgn
  by_cases a : p
  · rw [if_pos a]
    rfl
  · rw [if_neg a]
    by_cases b : q
    · rw [if_pos b]
      rfl
    · rw [if_neg b]
      rfl
theorem i2d_k {a b : Nat} (ha : a < 2147483648) (hb : b < 2147483648) : fd_k (FP.i2d (gI a)) < fd_k (FP.i2d (gI b)) ↔ a < b := by
  have := (fd_i2dI ha).lt (fd_i2dI hb)
  rw [this]
  omega
/-- cells compared: by sign as the class's order -/
theorem mc_cmp {a b : Nat} {x y : gp_C} (ma : mc S a x) (mb : mc S b y) (hx : gp_okC x) (hy : gp_okC y) (ha : a < 272) (hb : b < 272) (x4 : x.1 ≠ 4) (y4 : y.1 ≠ 4) : f_M_compareCells (some 30) (gI a) (gI b) (gv_ov h S) = some (gN (sgn (sp_ord x y)), gv_ov h S) := by
  have x1 := hx.1
  have y1 := hy.1
  have lx := hx.2.2.2.2.2.2.2.2.1
  have ly := hy.2.2.2.2.2.2.2.2.1
  have ka : ∀ {β : Type} (K : Int32 → Option β), ((gk_ald (gv_ov h S) (some 35) 1 (gI a)).bind gk_asI).bind K = K (gI x.1) := fun K => by rw [ga_35 (by omega), ma.1]
  have kb : ∀ {β : Type} (K : Int32 → Option β), ((gk_ald (gv_ov h S) (some 35) 1 (gI b)).bind gk_asI).bind K = K (gI y.1) := fun K => by rw [ga_35 (by omega), mb.1]
  have z0 : ∀ (q : Nat), q ≤ 8 → ∀ {β : Type} (u v : β), (if gI q = (0 : Int32) then u else v) = if q = 0 then u else v := fun q hq _ u v => ite_eq u v q 0 (by omega) (by decide)
  have mdx : (if x.1 = 0 then (0 : UInt64) else md x) = md x := by
    by_cases z : x.1 = 0
    · rw [if_pos z]
      unfold md
      rw [if_neg (by omega), hx.2.2.2.2.2.2.1 (by omega) (by omega), md_0]
    · rw [if_neg z]
  have mdy : (if y.1 = 0 then (0 : UInt64) else md y) = md y := by
    by_cases z : y.1 = 0
    · rw [if_pos z]
      unfold md
      rw [if_neg (by omega), hy.2.2.2.2.2.2.1 (by omega) (by omega), md_0]
    · rw [if_neg z]
  have b49 : f_M_compareCells_b49 (some 30) (gI a) (gI b) (gI (sp_ok1 x y)) (gI (sp_ok2 x y)) (gv_ov h S) = some (gN (sgn (sp_ord x y)), gv_ov h S) := by
    have o1 : sp_ok1 x y ≤ 4 := by unfold sp_ok1; split <;> omega
    have o2 : sp_ok2 x y ≤ 4 := by unfold sp_ok2; split <;> omega
    unfold f_M_compareCells_b49 f_M_compareCells_b68 sp_ord
    rw [ite_eq _ _ _ _ (by omega) (by omega), ite_le _ _ _ _ (by omega) (by omega), gI_lit 2, ite_eq _ _ _ _ (by omega) (by decide)]
    by_cases z : sp_ok1 x y = sp_ok2 x y
    · rw [if_pos z, if_neg (show ¬ sp_ok1 x y ≠ sp_ok2 x y from fun q => q z)]
      by_cases z2 : sp_ok1 x y = 2
      · rw [if_pos z2, if_neg (show ¬ sp_ok1 x y = 1 by omega), if_pos z2]
        have go : ∀ (nx ny : Nat), nx = x.2.2.2.length → ny = y.2.2.2.length → f_M_compareCells_b131 (some 30) (some 38) (gI (256 * a)) (gI nx) (some 38) (gI (256 * b)) (gI ny) (gv_ov h S) = some (gN (sgn (nl_ord x.2.2.2 y.2.2.2)), gv_ov h S) := fun nx ny h1 h2 => by
          have := mw_cmp (h := h) lx ly ha hb ma.2.2.2 mb.2.2.2 (ok_t128 hx) (ok_t128 hy) x.2.2.2 [] y.2.2.2 [] gk_F rfl rfl rfl (by unfold gk_F; omega)
          unfold f_M_compareCells_b131 f_M_compareWords
          rw [gc_30, ca_id, h1, h2]
          exact this
        unfold f_M_compareCells_b103
        rw [gr_30_10, gr_30_7, ka, z0 _ (by omega), gr_30_9, ga_37 (by omega), ma.2.2.1, gr_30_10, gr_30_10, gr_30_7, gr_30_7, kb, kb, z0 _ (by omega), z0 _ (by omega), gr_30_9, gr_30_9, ga_37 (by omega), ga_37 (by omega), mb.2.2.1, gI_lit 256, gI_mul, gI_mul]
        have e0x : x.1 = 0 → x.2.2.2.length = 0 := fun q => by rw [hx.2.2.2.2.2.2.2.1 (by omega)]; rfl
        have e0y : y.1 = 0 → y.2.2.2.length = 0 := fun q => by rw [hy.2.2.2.2.2.2.2.1 (by omega)]; rfl
        by_cases q1 : x.1 = 0
        · rw [if_pos q1]
          by_cases q2 : y.1 = 0
          · rw [if_pos q2]
            exact go 0 0 (e0x q1).symm (e0y q2).symm
          · rw [if_neg q2]
            exact go 0 _ (e0x q1).symm rfl
        · rw [if_neg q1]
          by_cases q2 : y.1 = 0
          · rw [if_pos q2]
            exact go _ 0 rfl (e0y q2).symm
          · rw [if_neg q2]
            exact go _ _ rfl rfl
      · rw [if_neg z2]
        unfold f_M_compareCells_b154 f_M_compareCells_b173
        simp only [ca_id]
        have nx := md_n hx
        have ny := md_n hy
        have num : (if x.1 = 0 then (if y.1 = 0 then f_M_compareNumbers 0 0 (gv_ov h S) else f_M_compareNumbers 0 (md y) (gv_ov h S)) else (if y.1 = 0 then f_M_compareNumbers (md x) 0 (gv_ov h S) else f_M_compareNumbers (md x) (md y) (gv_ov h S))) = f_M_compareNumbers (md x) (md y) (gv_ov h S) := by
          by_cases q1 : x.1 = 0
          · rw [if_pos q1] at mdx
            by_cases q2 : y.1 = 0
            · rw [if_pos q2] at mdy
              rw [if_pos q1, if_pos q2, ← mdx, ← mdy]
            · rw [if_pos q1, if_neg q2, ← mdx]
          · by_cases q2 : y.1 = 0
            · rw [if_pos q2] at mdy
              rw [if_neg q1, if_pos q2, ← mdy]
            · rw [if_neg q1, if_neg q2]
        have k36a : ∀ {β : Type} (K : UInt64 → Option β), ((gk_ald (gv_ov h S) (some 36) 6 (gI a)).bind gk_asD).bind K = K (md x) := fun K => by rw [ga_36 (by omega), ma.2.1]
        have k36b : ∀ {β : Type} (K : UInt64 → Option β), ((gk_ald (gv_ov h S) (some 36) 6 (gI b)).bind gk_asD).bind K = K (md y) := fun K => by rw [ga_36 (by omega), mb.2.1]
        simp only [gr_30_7, gr_30_8, ka, kb, k36a, k36b, z0 x.1 (by omega), z0 y.1 (by omega)]
        refine Eq.trans num ?_
        rw [mc_num nx ny]
        by_cases z1 : sp_ok1 x y = 1
        · have ex : md x = x.2.2.1 := by
            unfold md
            by_cases q : x.1 = 1
            · rw [if_pos q]
            · have : x.1 = 0 := by
                unfold sp_ok1 at z1
                split at z1 <;> omega
              rw [if_neg q, hx.2.2.2.2.2.2.1 (by omega) (by omega), md_0, hx.2.2.2.1 q]
          have ey : md y = y.2.2.1 := by
            unfold md
            by_cases q : y.1 = 1
            · rw [if_pos q]
            · have : y.1 = 0 := by
                unfold sp_ok2 at z
                split at z <;> omega
              rw [if_neg q, hy.2.2.2.2.2.2.1 (by omega) (by omega), md_0, hy.2.2.2.1 q]
          rw [if_pos z1, ex, ey, sgn_id]
        · have hx1 : x.1 ≠ 1 := fun q => by
            unfold sp_ok1 at z1
            split at z1 <;> omega
          have hy1 : y.1 ≠ 1 := fun q => by
            unfold sp_ok2 at z
            split at z <;> omega
          have ex : md x = FP.i2d (gI x.2.1) := if_neg hx1
          have ey : md y = FP.i2d (gI y.2.1) := if_neg hy1
          have cx := ok_code hx
          have cy := ok_code hy
          rw [if_neg z1, if_neg z2, ex, ey]
          have i1 := i2d_k (a := x.2.1) (b := y.2.1) (by omega) (by omega)
          have i2 := i2d_k (a := y.2.1) (b := x.2.1) (by omega) (by omega)
          congr 2
          unfold sgn
          by_cases q1 : x.2.1 < y.2.1
          · rw [if_pos (i1.mpr q1), if_pos (by omega)]
          · rw [if_neg (fun w => q1 (i1.mp w))]
            by_cases q2 : y.2.1 < x.2.1
            · rw [if_pos (i2.mpr q2), if_neg (by omega), if_pos (by omega)]
            · rw [if_neg (fun w => q2 (i2.mp w)), if_neg (by omega), if_neg (by omega)]
    · rw [if_neg z, if_pos z]
      unfold sgn
      by_cases z2 : sp_ok2 x y ≤ sp_ok1 x y
      · rw [if_pos z2, if_neg (by omega), if_pos (by omega)]
        rfl
      · rw [if_neg z2, if_pos (by omega), gI_m1B]
  unfold f_M_compareCells f_M_compareCells_b24
  simp only [gr_30_7, ka, kb, z0 x.1 (by omega), z0 y.1 (by omega)]
  unfold sp_ok2 sp_ok1 at b49
  by_cases q1 : x.1 = 0
  · rw [if_pos q1]
    rw [if_pos q1] at b49
    by_cases q2 : y.1 = 0
    · rw [if_pos q2]
      rw [if_pos q2, q2] at b49
      rw [q1, q2]
      exact b49
    · rw [if_neg q2]
      rw [if_neg q2] at b49
      exact b49
  · rw [if_neg q1]
    rw [if_neg q1] at b49
    by_cases q2 : y.1 = 0
    · rw [if_pos q2]
      rw [if_pos q2] at b49
      exact b49
    · rw [if_neg q2]
      rw [if_neg q2] at b49
      exact b49
end MCM
