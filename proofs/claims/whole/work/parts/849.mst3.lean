/-! THE PURE PART: the reference's stack methods, cells and texts -/
def anD (o : Sum UInt64 String) : UInt64 := match o with
  | .inl v => v
  | .inr _ => 0
section MS3
variable {h : gk_H} {S : gv_S} {L : List gp_V} {u : List Nat} {V : gp_V}
theorem mo_find (a : mS S L) (d r c : Int32) : sp_cat L d r c = none ∧ f_M_find (some 30) d r c (gv_ov h S) = some ((-1 : Int32), gv_ov h S) ∨ ∃ (C : gp_C) (p : Nat), sp_cat L d r c = some C ∧ f_M_find (some 30) d r c (gv_ov h S) = some (gI p, gv_ov h S) ∧ p < 256 ∧ mc S p C ∧ gp_okC C := by
  have h16 := a.1
  unfold f_M_find f_M_find_b12 f_M_find_b54 f_M_find_b75 sp_cat
  by_cases z1 : d < 0
  · rw [if_pos z1, if_pos (Or.inl z1)]
    exact Or.inl ⟨rfl, rfl⟩
  · rw [if_neg z1, gg_30_3, a.2.1]
    by_cases z2 : gI L.length ≤ d
    · rw [if_neg (fun w => ((lt_in z1 (by omega)).mp w) z2), if_pos (Or.inr z2)]
      exact Or.inl ⟨rfl, rfl⟩
    · have hd := in_lt z1 (by omega) z2
      rw [if_pos ((lt_in z1 (by omega)).mpr z2), if_neg (show ¬ (d < 0 ∨ gI L.length ≤ d) from fun w => w.elim z1 z2), gg_30_3, a.2.1, gd_at z1 h16 hd, gk_let_eq]
      have hm := a.2.2 (L.length - 1 - d.toNatClampNeg) (by omega)
      revert hm
      generalize L.getD (L.length - 1 - d.toNatClampNeg) gV_d = V
      have hp : L.length - 1 - d.toNatClampNeg < 16 := by omega
      revert hp
      generalize L.length - 1 - d.toNatClampNeg = p
      intro hp hm
      obtain ⟨g1, g2⟩ := gp_ok16 hm.1
      have hm16 := hm.1.2.2.1
      rw [gr_30_5, ga_33 (by omega), gr_30_6, ga_34 (by omega), gr_30_6, ga_34 (by omega), hm.2.2.1, hm.2.2.2.1]
      by_cases y1 : r < 0
      · rw [if_pos y1, if_pos (Or.inl y1)]
        exact Or.inl ⟨rfl, rfl⟩
      · rw [if_neg y1]
        by_cases y2 : gI V.2.1 ≤ r
        · rw [if_pos y2, if_pos (Or.inr (Or.inl y2))]
          exact Or.inl ⟨rfl, rfl⟩
        · rw [if_neg y2]
          by_cases y3 : c < 0
          · rw [if_pos y3, if_pos (Or.inr (Or.inr (Or.inl y3)))]
            exact Or.inl ⟨rfl, rfl⟩
          · rw [if_neg y3]
            by_cases y4 : gI V.2.2.1 ≤ c
            · rw [if_neg (fun w => ((lt_in y3 (by omega)).mp w) y4), if_pos (Or.inr (Or.inr (Or.inr y4)))]
              exact Or.inl ⟨rfl, rfl⟩
            · have hr := in_lt y1 (by omega) y2
              have hcc := in_lt y3 (by omega) y4
              have hix := ix_lt hr hcc
              rw [if_pos ((lt_in y3 (by omega)).mpr y4), if_neg (show ¬ (r < 0 ∨ gI V.2.1 ≤ r ∨ c < 0 ∨ gI V.2.2.1 ≤ c) from fun w => w.elim y1 (fun w => w.elim y2 (fun w => w.elim y3 y4)))]
              have ea : (16 : Int32) * gI p + r * gI V.2.2.1 + c = gI (16 * p + (r.toNatClampNeg * V.2.2.1 + c.toNatClampNeg)) := by
                conv => lhs; rw [(gI_in y1).1, (gI_in y3).1]
                rw [gI_lit 16, gI_mul, gI_mul, gI_add, gI_add, Nat.add_assoc]
              rw [ea]
              exact Or.inr ⟨_, _, rfl, rfl, by omega, hm.2.2.2.2 _ hix, hm.1.2.2.2.1 _ hix⟩
theorem m1_lt {β : Type} (x y : β) : (if (0 : Int32) ≤ (-1 : Int32) then x else y) = y := if_neg (by decide)
theorem p0_le {p : Nat} (hp : p < 2147483648) {β : Type} (x y : β) : (if (0 : Int32) ≤ gI p then x else y) = x := by
  rw [show (0 : Int32) = gI 0 from rfl, ite_le _ _ _ _ (by decide) hp, if_pos (Nat.zero_le _)]
theorem mo_cell (a : mS S L) (b : mU S u) (d r c w : Int32) : ∃ S', f_M_cell (some 30) d r c w (gv_ov h S) = some (anI (sp_cell L d r c w), gv_ov h S') ∧ mO S S' (cdN eIX (sp_cell L d r c w)) L u := by
  unfold f_M_cell sp_cell
  rcases mo_find (h := h) a d r c with ⟨z, e⟩ | ⟨C, p, z, e, hp, hm, hok⟩
  · unfold f_M_cell_b35
    rw [gc_30, e, gk_ca_some, m1_lt, z, gs01l, gg_30_0, gu_I2, if_neg (show ¬ gI 1 ≤ 0 from by decide)]
    exact ⟨_, rfl, mO.code a b 1⟩
  · have wrong : ∃ S', f_M_cell_b30 (some 30) w (gI p) (some 30) (gv_ov h S) = some ((0 : Int32), gv_ov h S') ∧ mO S S' 2 L u := by
      unfold f_M_cell_b30 f_M_cell_b35
      rw [gs02l, gg_30_0, gu_I2, if_neg (show ¬ gI 2 ≤ 0 from by decide)]
      exact ⟨_, rfl, mO.code a b 2⟩
    have h4 := hok.1
    have hcd := ok_code hok
    have right : ∃ S', f_M_cell_b35 (some 30) w (gI p) (some 30) (0 : Int32) (gv_ov h S) = some (if w = 0 then gI C.1 else gI (if C.1 = 2 then C.2.2.2.length else C.2.1), gv_ov h S') ∧ mO S S' 0 L u := by
      unfold f_M_cell_b35 f_M_cell_b106
      rw [gs00l, gg_30_0, gu_I2, if_pos (show gI 0 ≤ 0 from by decide), gr_30_7, ga_35 (by omega), gr_30_7, ga_35 (by omega), gr_30_7, ga_35 (by omega), gr_30_8, ga_36 (by omega), gr_30_9, ga_37 (by omega), gu_I1 _ _ _ _ _ _ (by omega), gu_I1 _ _ _ _ _ _ (by omega), gu_I3, hm.1, hm.2.1, hm.2.2.1, gI_lit 2, ite_eq _ _ _ _ (by omega) (by decide), ite_le _ _ _ _ (by omega) (by decide)]
      refine ⟨_, ?_, mO.code a b 0⟩
      by_cases y0 : w = 0
      · rw [if_pos y0, if_pos y0]
      · rw [if_neg y0, if_neg y0]
        by_cases y2 : C.1 = 2
        · rw [if_pos y2, if_pos y2]
        · rw [if_neg y2, if_neg y2]
          by_cases y3 : C.1 ≤ 2
          · have : C.2.1 = 0 := hok.2.2.2.2.2.2.1 (by omega) (by omega)
            rw [if_pos y3, this]
            rfl
          · rw [if_neg y3]
            unfold md
            rw [if_neg (by omega), d2i_i2d']
    rw [gc_30, e, gk_ca_some, p0_le (by omega), z]
    dsimp only
    by_cases y0 : w = 0
    · rw [if_pos y0] at right ⊢
      rw [y0] at right ⊢
      rw [if_neg (by decide), if_pos (by decide)]
      exact right
    · rw [if_neg y0] at right ⊢
      by_cases y1 : w = 1
      · rw [if_pos y1]
        rw [y1] at right ⊢
        rw [if_neg (by decide), if_pos (by decide)]
        exact right
      · rw [if_neg y1]
        by_cases y3 : w < 0
        · rw [if_pos y3]
          exact wrong
        · rw [if_neg y3]
          have y4 : ¬ w ≤ (1 : Int32) := fun q => by
            obtain ⟨e1, e2⟩ := gI_in y3
            rw [e1, show (1 : Int32) = gI 1 from rfl, gI_le _ _ e2 (by decide)] at q
            rw [e1, show (0 : Int32) = gI 0 from rfl, gI_eq _ _ e2 (by decide)] at y0
            rw [e1, show (1 : Int32) = gI 1 from rfl, gI_eq _ _ e2 (by decide)] at y1
            omega
          rw [if_neg y4]
          exact wrong
theorem mo_value (a : mS S L) (b : mU S u) (d r c : Int32) : ∃ S', f_M_value (some 30) d r c (gv_ov h S) = some (anD (sp_value L d r c), gv_ov h S') ∧ mO S S' (cdN eIX (sp_value L d r c)) L u := by
  unfold f_M_value f_M_value_b20 f_M_value_b41 f_M_value_b52 sp_value
  rcases mo_find (h := h) a d r c with ⟨z, e⟩ | ⟨C, p, z, e, hp, hm, hok⟩
  · rw [gc_30, e, gk_ca_some, m1_lt, z, gs01l, gg_30_0, gu_I2, if_pos (show 0 < gI 1 from by decide)]
    exact ⟨_, rfl, mO.code a b 1⟩
  · have h4 := hok.1
    rw [gc_30, e, gk_ca_some, p0_le (by omega), z, gs00l, gg_30_0, gu_I2, if_neg (show ¬ 0 < gI 0 from by decide), gr_30_7, ga_35 (by omega), gr_30_8, ga_36 (by omega), gu_I1 _ _ _ _ _ _ (by omega), gu_I3, hm.1, hm.2.1, show (1 : Int32) = gI 1 from rfl, ite_eq _ _ _ _ (by omega) (by decide)]
    refine ⟨_, ?_, mO.code a b 0⟩
    by_cases y : C.1 = 1
    · rw [if_pos y]
      unfold md
      rw [if_pos y]
      rfl
    · rw [if_neg y]
      show some ((0 : UInt64), _) = some (C.2.2.1, _)
      rw [hok.2.2.2.1 y]
theorem mo_letter (a : mS S L) (b : mU S u) (d r c k : Int32) : ∃ S', f_M_letter (some 30) d r c k (gv_ov h S) = some (anI (sp_letter L d r c k), gv_ov h S') ∧ mO S S' (cdN eIX (sp_letter L d r c k)) L u := by
  unfold f_M_letter f_M_letter_b20 f_M_letter_b60 f_M_letter_b78 sp_letter
  rcases mo_find (h := h) a d r c with ⟨z, e⟩ | ⟨C, p, z, e, hp, hm, hok⟩
  · rw [gc_30, e, gk_ca_some, m1_lt, z, gs01l, gg_30_0, gu_I2, if_neg (show ¬ gI 1 ≤ 0 from by decide)]
    exact ⟨_, rfl, mO.code a b 1⟩
  · have h4 := hok.1
    have hl := hok.2.2.2.2.2.2.2.2.1
    rw [gc_30, e, gk_ca_some, p0_le (by omega), z, gs00l, gg_30_0, gu_I2, if_pos (show gI 0 ≤ 0 from by decide), gr_30_7, ga_35 (by omega), gr_30_9, ga_37 (by omega), gu_I1 _ _ _ _ _ _ (by omega), gu_I1 _ _ _ _ _ _ (by omega), hm.1, hm.2.2.1, gI_lit 2, ite_eq _ _ _ _ (by omega) (by decide), gr_30_10]
    dsimp only
    by_cases y0 : k < 0
    · rw [if_pos y0, if_pos (Or.inl y0)]
      refine ⟨_, ?_, mO.code a b 0⟩
      split <;> rfl
    · rw [if_neg y0]
      by_cases y1 : gI C.2.2.2.length ≤ k
      · rw [if_neg (fun w => ((lt_in y0 (by omega)).mp w) y1), if_pos (Or.inr y1)]
        refine ⟨_, ?_, mO.code a b 0⟩
        split <;> rfl
      · have hk := in_lt y0 (by omega) y1
        have ek := (gI_in y0).1
        have h2 : C.1 = 2 := by
          by_cases q : C.1 = 2
          · exact q
          · have := hok.2.2.2.2.2.2.2.1 q
            rw [this] at hk
            exact absurd hk (Nat.not_lt_zero _)
        have ea : (256 : Int32) * gI p + k = gI (256 * p + k.toNatClampNeg) := by
          conv => lhs; rw [ek]
          rw [gI_lit 256, gI_mul, gI_add]
        rw [if_pos h2, if_pos ((lt_in y0 (by omega)).mpr y1), if_neg (show ¬ (k < 0 ∨ gI C.2.2.2.length ≤ k) from fun w => w.elim y0 y1), ea, ga_38 (by omega), gu_I1 _ _ _ _ _ _ (by omega), hm.2.2.2 _ hk]
        exact ⟨_, rfl, mO.code a b 0⟩
def cdT (o : Sum Unit String × List gp_V × List Nat) : Nat := cdN eST o.1
theorem mo_text (a : mS S L) (b : mU S u) : ∃ S', f_M_text (some 30) (gv_ov h S) = some ((), gv_ov h S') ∧ mO S S' (cdN eST (sp_text L u).1) (sp_text L u).2.1 (sp_text L u).2.2 := by
  have h16 := a.1
  unfold f_M_text f_M_text_b14 sp_text
  rw [gc_30, show (1 : Int32) = gI 1 from rfl, mi_full a 1 (by decide), gk_ca_some, show (0 : Int32) = gI 0 from rfl, ite_BI, gs00, gs00, gg_30_0, gg_30_0, gu_I2, gu_I2]
  by_cases z : L.length = 16
  · rw [if_pos (decide_eq_true z), if_neg (show ¬ gI 1 ≤ gI 0 from by decide), if_neg (by omega)]
    exact ⟨_, rfl, mO.code a b 1⟩
  · have a0 := a.code 0
    have b0 := b.code 0
    have hok : gp_okC (gc_t []) := gp_okt (Nat.zero_le _) okT.nil
    obtain ⟨S1, e1, e2, e3⟩ := m_setV (h := h) (S := gv_uI S 30 0 (gI 0)) L.length (by omega) hok rfl 0 fd_0_n (by rw [fd_c0]; exact md_0)
    have e1' : f_M_setSingle (some 30) (gI L.length) (2 : Int32) (0x0000000000000000) (gv_ov h (gv_uI S 30 0 (gI 0))) = some ((), gv_ov h S1) := e1
    have s3 : S1.1 30 3 = gI L.length := by
      rw [e2.i (fun z => by unfold mSet at z; omega)]
      exact a0.2.1
    have b1 : mU S1 u := b0.X e2 fun x y z => by unfold mSet at z; omega
    have loop : ∀ (r k fu : Nat) (T : gv_S), k + r = u.length → r < fu → mX (fun x y => x = 38 ∧ 4096 * L.length ≤ y ∧ y < 4096 * L.length + 256) (gv_uI S1 37 (16 * L.length) (gI u.length)) T → (∀ j, j < k → T.1 38 (4096 * L.length + j) = gI (u.getD j 0)) → ∃ T', f_M_text_b53 fu (some 30) (gI k) (gv_ov h T) = some ((), gv_ov h (gv_uI (gv_uI T' 30 1 (gI 0)) 30 3 (gI (L.length + 1)))) ∧ mX (fun x y => x = 38 ∧ 4096 * L.length ≤ y ∧ y < 4096 * L.length + 256) (gv_uI S1 37 (16 * L.length) (gI u.length)) T' ∧ ∀ j, j < u.length → T'.1 38 (4096 * L.length + j) = gI (u.getD j 0) := by
      intro r
      have hu := b.1
      induction r with
      | zero =>
        intro k fu T hk hf hT hj
        obtain ⟨fu, rfl⟩ : ∃ f, fu = f + 1 := ⟨fu - 1, by omega⟩
        have t1 : T.1 30 1 = gI u.length := by
          rw [hT.i (by omega), gu_I1 _ _ _ _ _ _ (by omega)]
          exact b1.2.2.1
        have t3 : T.1 30 3 = gI L.length := by
          rw [hT.i (by omega), gu_I1 _ _ _ _ _ _ (by omega)]
          exact s3
        rw [f_M_text_b53]
        dsimp only
        rw [gg_30_1, t1, ite_le _ _ _ _ (by omega) (by omega), if_pos (by omega), show (0 : Int32) = gI 0 from rfl, gs_30_1, gg_30_3, gu_I1 _ _ _ _ _ _ (by omega), t3, show gI L.length + (1 : Int32) = gI (L.length + 1) from gI_add _ 1, gs_30_3]
        exact ⟨T, rfl, hT, fun j hj2 => hj j (by omega)⟩
      | succ r ih =>
        intro k fu T hk hf hT hj
        obtain ⟨fu, rfl⟩ : ∃ f, fu = f + 1 := ⟨fu - 1, by omega⟩
        have t1 : T.1 30 1 = gI u.length := by
          rw [hT.i (by omega), gu_I1 _ _ _ _ _ _ (by omega)]
          exact b1.2.2.1
        have t3 : T.1 30 3 = gI L.length := by
          rw [hT.i (by omega), gu_I1 _ _ _ _ _ _ (by omega)]
          exact s3
        have t31 : T.1 31 k = gI (u.getD k 0) := by
          rw [hT.i (by omega), gu_I1 _ _ _ _ _ _ (by omega)]
          exact b1.2.2.2 k (by omega)
        have hch : u.getD k 0 < 128 := by
          have hm : u.getD k 0 ∈ u := by
            rw [List.getD_eq_getElem?_getD, List.getElem?_eq_getElem (show k < u.length by omega)]
            exact List.getElem_mem (show k < u.length by omega)
          have := b.2.1 _ hm
          omega
        obtain ⟨T', q1, q2, q3⟩ := ih (k + 1) fu (gv_uI T 38 (4096 * L.length + k) (gI (u.getD k 0))) (by omega) (by omega) (hT.trans (mX.I _ ⟨rfl, by omega, by omega⟩)) (fun j hj2 => by
          by_cases w : j = k
          · rw [w]
            exact gu_I2 _ _ _ _
          · rw [gu_I1 _ _ _ _ _ _ (by omega)]
            exact hj j (by omega))
        rw [f_M_text_b53]
        dsimp only
        rw [gg_30_1, t1, ite_le _ _ _ _ (by omega) (by omega), if_neg (by omega), gr_30_10, gg_30_3, t3, gr_30_2, ga_31 (by omega), t31, gI_lit 4096, gI_mul, gI_add, gt_38 (by omega), gk_let_eq, show gI k + (1 : Int32) = gI (k + 1) from gI_add k 1]
        rw [gI_bb hch]
        exact ⟨T', q1, q2, q3⟩
    obtain ⟨T, q1, q2, q3⟩ := loop u.length 0 gk_F (gv_uI S1 37 (16 * L.length) (gI u.length)) (Nat.zero_add _) (by have := b.1; unfold gk_F; omega) (mX.refl _ _) (fun j hj => absurd hj (Nat.not_lt_zero j))
    have okt : gp_okC (gc_t u) := gp_okt b.1 b.2.1
    have hu := b.1
    have q37 : mX (fun x y => x = 37 ∧ y = 16 * L.length) S1 (gv_uI S1 37 (16 * L.length) (gI u.length)) := mX.I _ ⟨rfl, rfl⟩
    have qAll : mX (mVl L.length) (gv_uI S 30 0 (gI 0)) T := ((e2.le fun x y z => mSet_vl z).trans (q37.le fun x y z => by unfold mVl; omega)).trans (q2.le fun x y z => by unfold mVl; omega)
    have hv : mv T L.length (gV_1 (gc_t u)) := by
      obtain ⟨v0, v1, v2, v3, v4⟩ := e3
      have c0 := v4 0 (by show 0 < 1 * 1; decide)
      refine ⟨gp_ok1 okt, ?_, ?_, ?_, fun j hj => ?_⟩
      · rw [q2.i (by omega), q37.i (by omega)]
        exact v1
      · rw [q2.i (by omega), q37.i (by omega)]
        exact v2
      · rw [q2.i (by omega), q37.i (by omega)]
        exact v3
      · have hj0 : j < 1 * 1 := hj
        have ej : j = 0 := by omega
        subst ej
        refine ⟨?_, ?_, ?_, fun k hk => ?_⟩
        · rw [q2.i (by omega), q37.i (by omega)]
          exact c0.1
        · rw [q2.d (by omega), q37.d (by omega)]
          exact c0.2.1
        · rw [q2.i (by omega), Nat.add_zero]
          exact gu_I2 _ _ _ _
        · have := q3 k hk
          rw [show 256 * (16 * L.length + 0) + k = 4096 * L.length + k by omega]
          exact this
    have x1 : mX (fun x y => x = 30 ∧ y = 1) T (gv_uI T 30 1 (gI 0)) := mX.I _ ⟨rfl, rfl⟩
    have x3 : mX (fun x y => x = 30 ∧ y = 3) (gv_uI T 30 1 (gI 0)) (gv_uI (gv_uI T 30 1 (gI 0)) 30 3 (gI (L.length + 1))) := mX.I _ ⟨rfl, rfl⟩
    have aT : mS (gv_uI S 30 1 (gI 0)) L := a.X (mX.I (P := fun x y => x = 30 ∧ y = 1) _ ⟨rfl, rfl⟩) fun x y w => ⟨by omega, fun m _ w2 => by unfold mVl at w2; omega⟩
    -- pushed: from the stack before, through all that was written
    have qq : mX (fun x y => mVl L.length x y ∨ (x = 30 ∧ y = 1)) (gv_uI S 30 0 (gI 0)) (gv_uI T 30 1 (gI 0)) := (qAll.le fun x y z => Or.inl z).trans (x1.le fun x y z => Or.inr z)
    have hpush : mS (gv_uI (gv_uI T 30 1 (gI 0)) 30 3 (gI (L.length + 1))) (L ++ [gV_1 (gc_t u)]) := by
      have a1 : mS (gv_uI (gv_uI S 30 0 (gI 0)) 30 1 (gI 0)) L := a0.X (mX.I (P := fun x y => x = 30 ∧ y = 1) _ ⟨rfl, rfl⟩) fun x y w => ⟨by omega, fun m _ w2 => by unfold mVl at w2; omega⟩
      have hX : mX (mVl L.length) (gv_uI (gv_uI S 30 0 (gI 0)) 30 1 (gI 0)) (gv_uI T 30 1 (gI 0)) := by
        refine ⟨fun x y hxy => ⟨?_, ?_⟩, ?_⟩
        · by_cases w : x = 30 ∧ y = 1
          · rw [w.1, w.2, gu_I2, gu_I2]
          · rw [gu_I1 _ _ _ _ _ _ w, gu_I1 _ _ _ _ _ _ w]
            exact qAll.i hxy
        · exact qAll.d hxy
        · exact qAll.2
      have := a1.push (n := L.length) (Nat.le_refl _) (by omega) hX (hv.X x1 fun x y w => by omega)
      rw [List.take_length] at this
      exact this
    rw [if_neg (by rw [decide_eq_false z]; decide), if_pos (show gI 0 ≤ gI 0 from by decide), if_pos (by omega), gg_30_3, a0.2.1, gc_30, e1', gk_ca_some, gr_30_9, gg_30_3, s3, gg_30_1, b1.2.2.1, gI_lit 16, gI_mul, gt_37 (by omega), q1]
    refine ⟨_, rfl, ?_, hpush, ⟨Nat.zero_le _, okT.nil, ?_, fun k hk => absurd hk (Nat.not_lt_zero k)⟩, ?_⟩
    · rw [gu_I1 _ _ _ _ _ _ (by omega), gu_I1 _ _ _ _ _ _ (by omega), qAll.i (by unfold mVl; omega)]
      exact gu_I2 _ _ _ _
    · rw [gu_I1 _ _ _ _ _ _ (by omega)]
      exact gu_I2 _ _ _ _
    · exact (((mO.code a b 0).2.2.2.trans (qAll.fr fun x y z => by unfold mVl at z; omega)).trans (x1.fr fun x y z => by omega)).trans (x3.fr fun x y z => by omega)
end MS3
