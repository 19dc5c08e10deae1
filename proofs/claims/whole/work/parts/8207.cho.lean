/-! THE PURE PART: choices, functions 35 to 55 (class) -/
def sxV (e : Nat) (V : gp_V) : gp_V := if e = 0 then V else gV_1 (gc_e e)
theorem sxV_1 (e : Nat) (c : gp_C) : sxV e (gV_1 c) = gV_1 (sx e c) := by
  unfold sxV sx
  split <;> rfl
def sc_tru (cs : Nat → gp_C) (al : Bool) : Nat → Nat
  | 0 => 0
  | k + 1 => sc_tru cs al k + if ((cs k).1 = 1 ∨ (cs k).1 = 3) ∧ (al = false ∨ fd_k (cs k).2.2.1 ≠ 0 ∨ (cs k).2.1 ≠ 0) then 1 else 0
theorem sc_tru_le (cs : Nat → gp_C) (al : Bool) : ∀ k, sc_tru cs al k ≤ k
  | 0 => Nat.le_refl _
  | k + 1 => by
    have := sc_tru_le cs al k
    unfold sc_tru
    split <;> omega
/-- errors, how many, how many TRUE -/
def so_err (vs : Nat → gp_V) : Nat → Nat
  | 0 => 0
  | k + 1 => bl (so_err vs k) (if (vs k).1 = 5 then sc_err (vs k).2.2.2 (cellsN (vs k)) else (sp_tru (sp_1 (vs k))).1)
def so_all (vs : Nat → gp_V) : Nat → Nat
  | 0 => 0
  | k + 1 => so_all vs k + if (vs k).1 = 5 then sc_tru (vs k).2.2.2 false (cellsN (vs k)) else 1
def so_aff (vs : Nat → gp_V) : Nat → Nat
  | 0 => 0
  | k + 1 => so_aff vs k + if (vs k).1 = 5 then sc_tru (vs k).2.2.2 true (cellsN (vs k)) else if (sp_tru (sp_1 (vs k))).2 = true then 1 else 0
def sp_of (f : Nat) (al af : Nat) : gp_C := if al = 0 then gc_e 3 else if f = 39 then gc_b (decide (af = al)) else if f = 40 then gc_b (decide (0 < af)) else gc_b (decide (af % 2 = 1))
def sp_typ (k : Nat) : Nat := if k = 2 then 2 else if k = 3 then 4 else if k = 4 then 16 else if k = 5 then 64 else 1
def sp_is (f : Nat) (c : gp_C) : Bool := if f = 46 then decide (c.1 = 0) else if f = 47 then decide (c.1 = 1) else if f = 48 then decide (c.1 = 2) else if f = 49 then decide (c.1 = 3) else if f = 50 then decide (c.1 = 4) else decide (c.1 = 4 ∧ c.2.1 = 7)
def sp_ch (f : Nat) (vs : Nat → gp_V) (n : Nat) : gp_V :=
  if f = 35 then sxV (sp_tru (sp_1 (vs 0))).1 (if (sp_tru (sp_1 (vs 0))).2 = true then vs 1 else if 2 < n then vs 2 else gV_1 (gc_b false))
  else if f = 36 ∨ f = 37 then (if (vs 0).1 = 4 ∧ (f = 36 ∨ ((vs 0).2.2.2 0).2.1 = 7) then vs 1 else vs 0)
  else if f = 38 then sxV (sW vs 0) (if sw_x vs 0 < 1 ∨ (n : Int) ≤ sw_x vs 0 then gV_1 (gc_e 3) else vs (sw_x vs 0).toNat)
  else if f = 39 ∨ f = 40 ∨ f = 41 then gV_1 (sx (so_err vs n) (sp_of f (so_all vs n) (so_aff vs n)))
  else if f = 42 then gV_1 (sx (sp_tru (sp_1 (vs 0))).1 (gc_b (!(sp_tru (sp_1 (vs 0))).2)))
  else if f = 43 then gV_1 (gc_e 7)
  else if f = 44 ∨ f = 45 then gV_1 (gc_b (decide (f = 44)))
  else if f = 52 then gV_1 (sx (sp_err (sp_1 (vs 0))) (gc_n (if (sp_1 (vs 0)).1 = 3 then FP.i2d (gI (sp_1 (vs 0)).2.1) else (sp_1 (vs 0)).2.2.1)))
  else if f = 53 then gV_1 (sx (sp_err (sp_1 (vs 0))) (gc_t (sp_1 (vs 0)).2.2.2))
  else if f = 54 then gV_1 (gc_n (FP.i2d (gI (sp_typ (vs 0).1))))
  else if f = 55 then gV_1 (if (sp_1 (vs 0)).1 = 4 then gc_n (FP.i2d (gI (sp_1 (vs 0)).2.1)) else gc_e 7)
  else gV_1 (gc_b (sp_is f (sp_1 (vs 0))))
theorem sp_tru_le {c : gp_C} (h : gp_okC c) : (sp_tru c).1 ≤ 8 := by
  unfold sp_tru
  split
  · split
    · show 0 ≤ 8; decide
    · split
      · show 0 ≤ 8; decide
      · show 3 ≤ 8; decide
  · exact sp_err_le h
section CHO
variable {b n : Nat} {h : gk_H} {S : gv_S} {vs : Nat → gp_V} {f : Nat} {row : List UInt64} {j i : Nat} {c : gp_C}
theorem vr_tru (hc : gp_cs b h) (t : Bool) : vR b h S (f_Va_ofTruth (gB t) (gv_ov h S)) (gc_b t) := v_tru hc t
theorem cR.ofV {e : Nat} {r : Nat} {V W : gp_V} (hv : gp_val b h r V) (he : e ≤ 8) (hs : sxV e V = W) : cR b h S (some (some r, gv_ov h (gA S e row))) W 0 0 := ⟨r, h, S, e, row, V, rfl, hv, gp_ext.refl h, gc_fr.refl S, he, hs⟩
theorem cR.vr {e : Nat} {x : Option (Option Nat × gk_H)} {c : gp_C} (hv : vR b h (gA S e row) x c) (he : e ≤ 8) : cR b h S x (sxV e (gV_1 c)) 1 7 := by
  rw [sxV_1]
  exact cR.of hv he rfl
theorem gp_kind {V : gp_V} (hV : gp_okV V) : V.1 ≤ 5 := by
  rcases hV.2.2.2.2 with z | z
  · omega
  · have := (hV.2.2.2.1 0 (by have := hV.1; have := hV.2.1; exact Nat.mul_pos (by omega) (by omega))).1
    omega
theorem h_truthCells {V : gp_V} (hv : gp_val b h i V) (al : Bool) : f_Ch_truthCells (some i) (gB al) (gv_ov h S) = some (gI (sc_tru V.2.2.2 al (cellsN V)), gv_ov h S) := by
  obtain ⟨cs, fv⟩ := hv.fld
  have h16 : cellsN V ≤ 16 := hv.1.2.2.1
  have loop : ∀ (r k fu : Nat), k + r = cellsN V → r < fu → f_Ch_truthCells_b4 fu (some i) (gB al) (gI (sc_tru V.2.2.2 al k)) (gI k) (gv_ov h S) = some (gI (sc_tru V.2.2.2 al (cellsN V)), gv_ov h S) := by
    intro r
    induction r with
    | zero =>
      intro k fu hk hf
      obtain ⟨fu, rfl⟩ : ∃ f, fu = f + 1 := ⟨fu - 1, by omega⟩
      rw [f_Ch_truthCells_b4]
      dsimp only
      have hk' := hk
      unfold cellsN at hk' h16
      rw [fl_cv fv, v_many hv, gk_ca_some, ite_le _ _ _ _ (by omega) (by omega), if_pos (by omega), show k = cellsN V by omega]
    | succ r ih =>
      intro k fu hk hf
      obtain ⟨fu, rfl⟩ : ∃ f, fu = f + 1 := ⟨fu - 1, by omega⟩
      have hk' := hk
      unfold cellsN at hk' h16
      obtain ⟨j, j1, j2⟩ := v_at (S := S) hv k (by omega)
      have hle := sc_tru_le V.2.2.2 al k
      have h4 := j2.1.1
      have hcode : (V.2.2.2 k).2.1 ≤ 8 := by
        have q3 := j2.1.2.2.2.2.1
        have q4 := j2.1.2.2.2.2.2.1
        have q0 := j2.1.2.2.2.2.2.2.1
        omega
      have ih' := ih (k + 1) fu (by omega) (by omega)
      rw [sc_tru] at ih'
      have b89 : ∀ d : Nat, d = (if ((V.2.2.2 k).1 = 1 ∨ (V.2.2.2 k).1 = 3) ∧ (al = false ∨ fd_k (V.2.2.2 k).2.2.1 ≠ 0 ∨ (V.2.2.2 k).2.1 ≠ 0) then 1 else 0) → f_Ch_truthCells_b89 (f_Ch_truthCells_b4 fu) (some i) (gB al) (gI k) (gI (sc_tru V.2.2.2 al k)) (gI d) (gv_ov h S) = some (gI (sc_tru V.2.2.2 al (cellsN V)), gv_ov h S) := by
        intro d hd
        unfold f_Ch_truthCells_b89
        rw [gk_let_eq, gk_let_eq, gI_add, show gI k + (1 : Int32) = gI (k + 1) from gI_add k 1, hd]
        exact ih'
      have b67 : ∀ (co af : Bool), (co = true ↔ ((V.2.2.2 k).1 = 1 ∨ (V.2.2.2 k).1 = 3)) → (af = true ↔ (fd_k (V.2.2.2 k).2.2.1 ≠ 0 ∨ (V.2.2.2 k).2.1 ≠ 0)) → f_Ch_truthCells_b67 (f_Ch_truthCells_b4 fu) (some i) (gB al) (gI (sc_tru V.2.2.2 al k)) (gI k) (gB co) (gB af) (gv_ov h S) = some (gI (sc_tru V.2.2.2 al (cellsN V)), gv_ov h S) := by
        intro co af h1 h2
        unfold f_Ch_truthCells_b67 f_Ch_truthCells_b84 f_Ch_truthCells_b88
        rw [ite_B, ite_B, ite_B]
        cases co
        · rw [if_neg (by decide)]
          exact b89 0 (by rw [if_neg (fun q => by have := h1.mpr q.1; cases this)])
        · rw [if_pos rfl]
          cases af
          · rw [if_neg (by decide)]
            cases al
            · rw [if_neg (by decide)]
              exact b89 1 (by rw [if_pos ⟨h1.mp rfl, Or.inl rfl⟩])
            · rw [if_pos rfl]
              exact b89 0 (by rw [if_neg (fun q => by
                rcases q.2 with w | w
                · cases w
                · have := h2.mpr w
                  cases this)])
          · rw [if_pos rfl]
            exact b89 1 (by rw [if_pos ⟨h1.mp rfl, Or.inr (h2.mp rfl)⟩])
      have b42 : ∀ (co : Bool), (co = true ↔ ((V.2.2.2 k).1 = 1 ∨ (V.2.2.2 k).1 = 3)) → f_Ch_truthCells_b42 (f_Ch_truthCells_b4 fu) (some i) (gB al) (gI (sc_tru V.2.2.2 al k)) (gI k) (some j) (gB co) (gv_ov h S) = some (gI (sc_tru V.2.2.2 al (cellsN V)), gv_ov h S) := by
        intro co h1
        unfold f_Ch_truthCells_b42 f_Ch_truthCells_b62
        rw [fl_2 j2.2, fi_eq _ _ j2.1.2.1.n fd_0_n, fd_k0, fl_1 j2.2, gI_0, ite_eq _ _ _ _ (by omega) (by decide)]
        by_cases z : fd_k (V.2.2.2 k).2.2.1 = 0
        · rw [if_pos z]
          by_cases z2 : (V.2.2.2 k).2.1 = 0
          · rw [if_pos z2]
            exact b67 co false h1 ⟨(fun q => by cases q), (fun q => by omega)⟩
          · rw [if_neg z2]
            exact b67 co true h1 ⟨(fun _ => Or.inr z2), (fun _ => rfl)⟩
        · rw [if_neg z]
          exact b67 co true h1 ⟨(fun _ => Or.inl z), (fun _ => rfl)⟩
      rw [f_Ch_truthCells_b4]
      unfold f_Ch_truthCells_b37
      dsimp only
      rw [fl_cv fv, v_many hv, gk_ca_some, ite_le _ _ _ _ (by omega) (by omega), if_neg (by omega), fl_cv fv, j1, gk_ca_some, fl_0 j2.2, fl_0 j2.2, gI_lit 3, show ((1 : Int32) = gI 1) from rfl, ite_eq _ _ _ _ (by omega) (by decide), ite_eq _ _ _ _ (by omega) (by decide)]
      by_cases z1 : (V.2.2.2 k).1 = 1
      · rw [if_pos z1]
        exact b42 true ⟨(fun _ => Or.inl z1), (fun _ => rfl)⟩
      · rw [if_neg z1]
        by_cases z3 : (V.2.2.2 k).1 = 3
        · rw [if_pos z3]
          exact b42 true ⟨(fun _ => Or.inr z3), (fun _ => rfl)⟩
        · rw [if_neg z3]
          exact b42 false ⟨(fun q => by cases q), (fun q => by omega)⟩
  exact loop _ 0 gk_F (Nat.zero_add _) (by unfold gk_F; omega)
theorem so_b (a : ga b h S vs n) : ∀ k, k ≤ n → so_err vs k ≤ 8 ∧ so_all vs k ≤ 16 * k ∧ so_aff vs k ≤ 16 * k
  | 0, _ => ⟨Nat.zero_le _, Nat.le_refl _, Nat.le_refl _⟩
  | k + 1, hk => by
    obtain ⟨p1, p2, p3⟩ := so_b a k (by omega)
    have hv := a.ok k (by omega)
    have h16 : cellsN (vs k) ≤ 16 := hv.2.2.1
    have e1 := sc_err_le (cs := (vs k).2.2.2) (cellsN (vs k)) fun m hm => hv.2.2.2.1 m hm
    have t1 := sc_tru_le (vs k).2.2.2 false (cellsN (vs k))
    have t2 := sc_tru_le (vs k).2.2.2 true (cellsN (vs k))
    have e2 : (sp_tru (sp_1 (vs k))).1 ≤ 8 := sp_tru_le (sp_1_ok hv)
    unfold so_err so_all so_aff
    refine ⟨bl_le p1 (by split; exact e1; exact e2), ?_, ?_⟩
    · split <;> omega
    · split
      · omega
      · split <;> omega
theorem h_ofTruths (a : ga b h S vs n) (hc : gp_cs b h) (hf : f = 39 ∨ f = 40 ∨ f = 41) : cR b h S (f_Ch_ofTruths (gI f) (some 20) (gv_ov h (gA S 0 row))) (gV_1 (sx (so_err vs n) (sp_of f (so_all vs n) (so_aff vs n)))) 1 7 := by
  have hn := a.1
  have loop : ∀ (r k fu : Nat), k + r = n → r < fu → cR b h S (f_Ch_ofTruths_b7 fu (gI f) (some 20) (gI (so_all vs k)) (gI (so_aff vs k)) (gI k) (gv_ov h (gA S (so_err vs k) row))) (gV_1 (sx (so_err vs n) (sp_of f (so_all vs n) (so_aff vs n)))) 1 7 := by
    intro r
    induction r with
    | zero =>
      intro k fu hk hff
      obtain ⟨fu, rfl⟩ : ∃ f, fu = f + 1 := ⟨fu - 1, by omega⟩
      obtain ⟨p1, p2, p3⟩ := so_b a k (by omega)
      obtain ⟨d1, d2⟩ := gN_div2 (so_aff vs k) (by omega)
      rw [f_Ch_ofTruths_b7]
      unfold f_Ch_ofTruths_b134 f_Ch_ofTruths_b147 f_Ch_ofTruths_b163
      simp only [ca_id]
      have e : k = n := by omega
      subst e
      rw [gc_20, a_many a, gk_ca_some, ite_le _ _ _ _ (by omega) (by omega), if_pos (by omega)]
      unfold sp_of
      have z0 : ∀ {β : Type} (x y : β) (q : Nat), q < 1000 → (if gI q = (0 : Int32) then x else y) = if q = 0 then x else y := fun x y q hq => ite_eq x y q 0 (by omega) (by decide)
      have zl : ∀ {β : Type} (x y : β) (q : Nat), q < 1000 → (if gI q ≤ (0 : Int32) then x else y) = if q ≤ 0 then x else y := fun x y q hq => ite_le x y q 0 (by omega) (by decide)
      rw [z0 _ _ _ (by omega), zl _ _ _ (by omega), gI_lit 39, gI_lit 40, ite_eq _ _ f 39 (by omega) (by decide), ite_eq _ _ f 40 (by omega) (by decide), ite_eq _ _ _ _ (by omega) (by omega)]
      by_cases z : so_all vs k = 0
      · rw [if_pos z, if_pos z]
        exact cR.of (vr_err hc 3 (by decide) (by decide)) p1 rfl
      · rw [if_neg z, if_neg z]
        by_cases f1 : f = 39
        · rw [if_pos f1, if_pos f1]
          by_cases z2 : so_aff vs k = so_all vs k
          · rw [if_pos z2, decide_eq_true z2]
            exact cR.of (vr_tru hc true) p1 rfl
          · rw [if_neg z2, decide_eq_false z2]
            exact cR.of (vr_tru hc false) p1 rfl
        · rw [if_neg f1, if_neg f1]
          by_cases f2 : f = 40
          · rw [if_pos f2, if_pos f2]
            by_cases z2 : so_aff vs k ≤ 0
            · rw [if_pos z2, decide_eq_false (show ¬ 0 < so_aff vs k by omega)]
              exact cR.of (vr_tru hc false) p1 rfl
            · rw [if_neg z2, decide_eq_true (show 0 < so_aff vs k by omega)]
              exact cR.of (vr_tru hc true) p1 rfl
          · rw [if_neg f2, if_neg f2]
            by_cases z2 : so_aff vs k % 2 = 1
            · rw [if_pos (d2.mpr z2), decide_eq_true z2]
              exact cR.of (vr_tru hc true) p1 rfl
            · rw [if_neg (fun q => z2 (d2.mp q)), decide_eq_false z2]
              exact cR.of (vr_tru hc false) p1 rfl
    | succ r ih =>
      intro k fu hk hff
      obtain ⟨fu, rfl⟩ : ∃ f, fu = f + 1 := ⟨fu - 1, by omega⟩
      obtain ⟨p1, p2, p3⟩ := so_b a k (by omega)
      obtain ⟨i, i1, i2⟩ := a_raw (f := so_err vs k) (row := row) a k (by omega)
      obtain ⟨cs, fv⟩ := i2.fld
      have hk5 := gp_kind i2.1
      have ih' := ih (k + 1) fu (by omega) (by omega)
      rw [so_err, so_all, so_aff] at ih'
      rw [f_Ch_ofTruths_b7]
      unfold f_Ch_ofTruths_b78 f_Ch_ofTruths_b80
      dsimp only
      rw [gc_20, a_many a, gk_ca_some, ite_le _ _ _ _ (by omega) (by omega), if_neg (by omega), gc_20, i1, gk_ca_some, fl_0 fv, gI_lit 5, ite_eq _ _ _ _ (by omega) (by decide)]
      by_cases z : (vs k).1 = 5
      · rw [if_pos z, if_pos z, if_pos z] at ih'
        have hb := a_blameCells (row := row) a k (by omega) p1
        have t0 : f_Ch_truthCells (some i) (0 : Int32) (gv_ov h (gA S (bl (so_err vs k) (sc_err (vs k).2.2.2 ((vs k).2.1 * (vs k).2.2.1))) row)) = _ := h_truthCells i2 false
        have t1 : f_Ch_truthCells (some i) (1 : Int32) (gv_ov h (gA S (bl (so_err vs k) (sc_err (vs k).2.2.2 ((vs k).2.1 * (vs k).2.2.1))) row)) = _ := h_truthCells i2 true
        rw [if_pos z, gc_20, hb, gk_ca_some, t0, gk_ca_some, gk_let_eq, t1, gk_ca_some, gk_let_eq, gk_let_eq, gI_add, gI_add, show gI k + (1 : Int32) = gI (k + 1) from gI_add k 1]
        exact ih'
      · rw [if_neg z, if_neg z, if_neg z] at ih'
        rw [if_neg z, gk_let_eq, gc_20, a_truth a hc k (by omega) p1, gk_ca_some, ite_B, gk_let_eq, gk_let_eq, gk_let_eq, show gI k + (1 : Int32) = gI (k + 1) from gI_add k 1, show gI (so_all vs k) + (1 : Int32) = gI (so_all vs k + 1) from gI_add _ 1, show gI (so_aff vs k) + (1 : Int32) = gI (so_aff vs k + 1) from gI_add _ 1, show gI (so_aff vs k) + (0 : Int32) = gI (so_aff vs k + 0) from gI_add _ 0]
        by_cases z2 : (sp_tru (sp_1 (vs k))).2 = true
        · rw [if_pos z2] at ih' ⊢
          exact ih'
        · rw [if_neg z2] at ih' ⊢
          exact ih'
  exact loop n 0 gk_F (by omega) (by unfold gk_F; omega)
theorem h_isSo (hj : gp_cell b h j c) (g : Nat) (h1 : 46 ≤ g) (h2 : g ≤ 51) : f_Ch_isSo (gI g) (some j) (gv_ov h S) = some (gB (sp_is g c), gv_ov h S) := by
  have h4 := hj.1.1
  have hcode : c.2.1 ≤ 8 := by
    have q3 := hj.1.2.2.2.2.1
    have q4 := hj.1.2.2.2.2.2.1
    have q0 := hj.1.2.2.2.2.2.2.1
    omega
  have hs : ∀ m : Nat, m < 10 → ∀ {β : Type} (x y : β), (if gI c.1 = gI m then x else y) = if c.1 = m then x else y := fun m hm _ x y => ite_eq x y _ _ (by omega) (by omega)
  unfold f_Ch_isSo f_Ch_isSo_b52 f_Ch_isSo_b66 f_Ch_isSo_b80 f_Ch_isSo_b94 f_Ch_isSo_b108 f_Ch_isSo_b130 f_Ch_isSo_b131
  have hgs : g = 46 ∨ g = 47 ∨ g = 48 ∨ g = 49 ∨ g = 50 ∨ g = 51 := by omega
  have fin : ∀ (P : Prop) [Decidable P] (x : Bool), x = decide P → (if P then (if narrow .boolean (.int (1 : Int32)) = .int (1 : Int32) then some ((1 : Int32), gv_ov h S) else none) else (if narrow .boolean (.int (0 : Int32)) = .int (0 : Int32) then some ((0 : Int32), gv_ov h S) else none)) = some (gB x, gv_ov h S) := by
    intro P _ x hx
    by_cases z : P
    · rw [if_pos z, hx, decide_eq_true z]
      rfl
    · rw [if_neg z, hx, decide_eq_false z]
      rfl
  rcases hgs with rfl | rfl | rfl | rfl | rfl | rfl
  · rw [if_pos (by decide), fl_0 hj.2, show (0 : Int32) = gI 0 from rfl, hs 0 (by decide)]
    exact fin _ _ rfl
  · rw [if_neg (by decide), if_pos (by decide), fl_0 hj.2, show (1 : Int32) = gI 1 from rfl, hs 1 (by decide)]
    exact fin _ _ rfl
  · rw [if_neg (by decide), if_neg (by decide), if_pos (by decide), fl_0 hj.2, gI_lit 2, hs 2 (by decide)]
    exact fin _ _ rfl
  · rw [if_neg (by decide), if_neg (by decide), if_neg (by decide), if_pos (by decide), fl_0 hj.2, gI_lit 3, hs 3 (by decide)]
    exact fin _ _ rfl
  · rw [if_neg (by decide), if_neg (by decide), if_neg (by decide), if_neg (by decide), if_pos (by decide), fl_0 hj.2, gI_lit 4, hs 4 (by decide)]
    exact fin _ _ rfl
  · rw [if_neg (by decide), if_neg (by decide), if_neg (by decide), if_neg (by decide), if_neg (by decide), if_pos (by decide), fl_0 hj.2, gI_lit 4, hs 4 (by decide), fl_1 hj.2, gI_lit 7, ite_eq _ _ _ _ (by omega) (by decide)]
    by_cases z : c.1 = 4
    · rw [if_pos z]
      exact fin _ _ (by show decide (c.1 = 4 ∧ c.2.1 = 7) = decide (c.2.1 = 7); simp [z])
    · rw [if_neg z]
      have : sp_is 51 c = false := by show decide (c.1 = 4 ∧ c.2.1 = 7) = false; simp [z]
      rw [this]
      rfl
theorem h_answer (a : ga b h S vs n) (hc : gp_cs b h) (h1 : 35 ≤ f) (h2 : f ≤ 55) (hn1 : f ≠ 43 → f ≠ 44 → f ≠ 45 → 1 ≤ n) (hn2 : f = 35 ∨ f = 36 ∨ f = 37 → 2 ≤ n) : cR b h S (f_Ch_answer (gI f) (some 20) (gv_ov h (gA S 0 row))) (sp_ch f vs n) 1 7 := by
  have hn := a.1
  have hfs : f = 35 ∨ f = 36 ∨ f = 37 ∨ f = 38 ∨ f = 39 ∨ f = 40 ∨ f = 41 ∨ f = 42 ∨ f = 43 ∨ f = 44 ∨ f = 45 ∨ f = 46 ∨ f = 47 ∨ f = 48 ∨ f = 49 ∨ f = 50 ∨ f = 51 ∨ f = 52 ∨ f = 53 ∨ f = 54 ∨ f = 55 := by omega
  unfold f_Ch_answer f_Ch_answer_b105 f_Ch_answer_b123 f_Ch_answer_b132 f_Ch_answer_b151 f_Ch_answer_b161 f_Ch_answer_b172 f_Ch_answer_b219
  simp only [ca_id]
  have mended : f = 36 ∨ f = 37 → cR b h S (gk_cv (gv_ov h (gA S 0 row)) (some 20) 4 (f_Ar_raw (some 20) (0 : Int32) (gv_ov h (gA S 0 row))) fun x1 h1 => gk_ca (f_Ch_isMended (gI f) x1 h1) fun x2 h2 => if x2 = 0 then gk_cv h2 (some 20) 4 (f_Ar_raw (some 20) (0 : Int32) h2) fun x3 h3 => some (x3, h3) else gk_cv h2 (some 20) 4 (f_Ar_raw (some 20) (1 : Int32) h2) fun x3 h3 => some (x3, h3)) (if (vs 0).1 = 4 ∧ (f = 36 ∨ ((vs 0).2.2.2 0).2.1 = 7) then vs 1 else vs 0) 1 7 := by
    intro hf
    obtain ⟨i, i1, i2⟩ := a_raw (f := 0) (row := row) a 0 (by omega)
    obtain ⟨j, j1, j2⟩ := a_raw (f := 0) (row := row) a 1 (by omega)
    have i1' : f_Ar_raw (some 20) (0 : Int32) (gv_ov h (gA S 0 row)) = some (some i, gv_ov h (gA S 0 row)) := i1
    have j1' : f_Ar_raw (some 20) (1 : Int32) (gv_ov h (gA S 0 row)) = some (some j, gv_ov h (gA S 0 row)) := j1
    obtain ⟨cs, fv⟩ := i2.fld
    have hk5 := gp_kind i2.1
    have hcc := i2.1.2.2.2.1 0 (by have := i2.1.1; have := i2.1.2.1; exact Nat.mul_pos (by omega) (by omega))
    have hcode : ((vs 0).2.2.2 0).2.1 ≤ 8 := by
      have q3 := hcc.2.2.2.2.1
      have q4 := hcc.2.2.2.2.2.1
      have q0 := hcc.2.2.2.2.2.2.1
      omega
    have hm : f_Ch_isMended (gI f) (some i) (gv_ov h (gA S 0 row)) = some (gB (decide ((vs 0).1 = 4 ∧ (f = 36 ∨ ((vs 0).2.2.2 0).2.1 = 7))), gv_ov h (gA S 0 row)) := by
      unfold f_Ch_isMended f_Ch_isMended_b23 f_Ch_isMended_b27 f_Ch_isMended_b28
      rw [nb0, nb1, fl_0 fv, fl_1 fv, gI_lit 4, gI_lit 36, gI_lit 7, ite_eq _ _ _ _ (by omega) (by decide), ite_eq _ _ _ _ (by omega) (by decide)]
      by_cases z : (vs 0).1 = 4
      · rw [if_pos z, if_neg (show ¬ (vs 0).1 = 5 by omega), ite_eq _ _ _ _ (by omega) (by decide)]
        by_cases z2 : f = 36
        · rw [if_pos z2, decide_eq_true (show (vs 0).1 = 4 ∧ (f = 36 ∨ ((vs 0).2.2.2 0).2.1 = 7) from ⟨z, Or.inl z2⟩)]
          rfl
        · rw [if_neg z2]
          by_cases z3 : ((vs 0).2.2.2 0).2.1 = 7
          · rw [if_pos z3, decide_eq_true (show (vs 0).1 = 4 ∧ (f = 36 ∨ ((vs 0).2.2.2 0).2.1 = 7) from ⟨z, Or.inr z3⟩)]
            rfl
          · rw [if_neg z3, decide_eq_false (show ¬ ((vs 0).1 = 4 ∧ (f = 36 ∨ ((vs 0).2.2.2 0).2.1 = 7)) from fun q => by omega)]
            rfl
      · rw [if_neg z, decide_eq_false (show ¬ ((vs 0).1 = 4 ∧ (f = 36 ∨ ((vs 0).2.2.2 0).2.1 = 7)) from fun q => z q.1)]
        rfl
    rw [gc_20, i1', gk_ca_some, hm, gk_ca_some, ite_B, gc_20, i1', j1', gk_ca_some, gc_20, gk_ca_some]
    by_cases z : (vs 0).1 = 4 ∧ (f = 36 ∨ ((vs 0).2.2.2 0).2.1 = 7)
    · rw [if_pos (decide_eq_true z), if_pos z]
      exact (cR.ofV j2 (Nat.zero_le _) rfl).le (by decide) (by decide)
    · rw [if_neg (by rw [decide_eq_false z]; decide), if_neg z]
      exact (cR.ofV i2 (Nat.zero_le _) rfl).le (by decide) (by decide)
  have isso : 46 ≤ f → f ≤ 51 → cR b h S (gk_cv (gv_ov h (gA S 0 row)) (some 20) 4 (f_Ar_single (some 20) (0 : Int32) (gv_ov h (gA S 0 row))) fun x1 h1 => gk_ca (f_Ch_isSo (gI f) x1 h1) fun x2 h2 => f_Va_ofTruth x2 h2) (gV_1 (gc_b (sp_is f (sp_1 (vs 0))))) 1 7 := by
    intro q1 q2
    obtain ⟨j, j1, j2⟩ := a_single (f := 0) (row := row) a 0 (by omega)
    have j1' : f_Ar_single (some 20) (0 : Int32) (gv_ov h (gA S 0 row)) = some (some j, gv_ov h (gA S 0 row)) := j1
    rw [gc_20, j1', gk_ca_some, h_isSo j2 f q1 q2, gk_ca_some]
    exact cR.of (vr_tru hc _) (Nat.zero_le _) rfl
  have tr0 : 1 ≤ n → f_Ar_truth (some 20) (0 : Int32) (gv_ov h (gA S 0 row)) = some (gB (sp_tru (sp_1 (vs 0))).2, gv_ov h (gA S (sp_tru (sp_1 (vs 0))).1 row)) ∧ (sp_tru (sp_1 (vs 0))).1 ≤ 8 := fun q => ⟨a_truth (f := 0) (row := row) a hc 0 (by omega) (by omega), sp_tru_le (sp_1_ok (a.ok 0 (by omega)))⟩
  have so0 : 1 ≤ n → ∃ j, f_Ar_sound (some 20) (0 : Int32) (gv_ov h (gA S 0 row)) = some (some j, gv_ov h (gA S (sp_err (sp_1 (vs 0))) row)) ∧ gp_cell b h j (sp_1 (vs 0)) ∧ sp_err (sp_1 (vs 0)) ≤ 8 := fun q => by
    obtain ⟨j, j1, j2⟩ := a_soundE (f := 0) (row := row) a 0 (by omega) (by omega)
    exact ⟨j, j1, j2, sp_err_le j2.1⟩
  rcases hfs with rfl | rfl | rfl | rfl | rfl | rfl | rfl | rfl | rfl | rfl | rfl | rfl | rfl | rfl | rfl | rfl | rfl | rfl | rfl | rfl | rfl
  · rw [if_pos (by decide)]
    obtain ⟨t1, t2⟩ := tr0 (by omega)
    obtain ⟨j, j1, j2⟩ := a_raw (f := (sp_tru (sp_1 (vs 0))).1) (row := row) a 1 (by omega)
    have j1' : f_Ar_raw (some 20) (1 : Int32) (gv_ov h (gA S (sp_tru (sp_1 (vs 0))).1 row)) = some (some j, gv_ov h (gA S (sp_tru (sp_1 (vs 0))).1 row)) := j1
    unfold f_Ch_chosenByTruth f_Ch_chosenByTruth_b34
    simp only [ca_id]
    show cR b h S _ (sxV (sp_tru (sp_1 (vs 0))).1 (if (sp_tru (sp_1 (vs 0))).2 = true then vs 1 else if 2 < n then vs 2 else gV_1 (gc_b false))) 1 7
    rw [gc_20, t1, gk_ca_some, ite_B, gc_20, j1', gk_ca_some, gc_20, a_many a, gk_ca_some, gI_lit 2, ite_le _ _ _ _ (by omega) (by decide)]
    by_cases z : (sp_tru (sp_1 (vs 0))).2 = true
    · rw [if_pos z, if_pos z]
      exact (cR.ofV j2 t2 rfl).le (by decide) (by decide)
    · rw [if_neg z, if_neg z]
      by_cases z2 : n ≤ 2
      · rw [if_pos z2, if_neg (show ¬ 2 < n by omega)]
        exact cR.vr (vr_tru hc false) t2
      · obtain ⟨k, k1, k2⟩ := a_raw (f := (sp_tru (sp_1 (vs 0))).1) (row := row) a 2 (by omega)
        rw [if_neg z2, if_pos (show 2 < n by omega), gc_20, k1, gk_ca_some]
        exact (cR.ofV k2 t2 rfl).le (by decide) (by decide)
  · rw [if_neg (by decide), if_pos (by decide)]
    exact mended (by decide)
  · rw [if_neg (by decide), if_neg (by decide), if_pos (by decide)]
    exact mended (by decide)
  · rw [if_neg (by decide), if_neg (by decide), if_neg (by decide), if_pos (by decide)]
    obtain ⟨w1, w2, w3⟩ := a.sW (k := 0) (by omega)
    have hw : f_Ar_whole (some 20) (0 : Int32) (gv_ov h (gA S 0 row)) = some (gJ (sw_x vs 0), gv_ov h (gA S (sW vs 0) row)) := a_wholeW a hc.1 0 (by omega) (by omega)
    unfold f_Ch_chosenByPlace f_Ch_chosenByPlace_b22
    simp only [ca_id]
    show cR b h S _ (sxV (sW vs 0) (if sw_x vs 0 < 1 ∨ (n : Int) ≤ sw_x vs 0 then gV_1 (gc_e 3) else vs (sw_x vs 0).toNat)) 1 7
    rw [gc_20, hw, gk_ca_some, show (1 : Int64) = gJ 1 from gJl_1, jte_lt _ _ _ _ (by omega) (by omega) (by omega) (by omega), gc_20, a_many a, gk_ca_some, gI_toJ _ (by omega), jte_lt _ _ _ _ (by omega) (by omega) (by omega) (by omega)]
    by_cases z1 : sw_x vs 0 < 1
    · rw [if_pos z1, if_pos (Or.inl z1)]
      exact cR.vr (vr_err hc 3 (by decide) (by decide)) w1
    · rw [if_neg z1]
      by_cases z2 : sw_x vs 0 < (n : Int)
      · obtain ⟨k, k1, k2⟩ := a_raw (f := sW vs 0) (row := row) a (sw_x vs 0).toNat (by omega)
        rw [if_pos z2, if_neg (show ¬ (sw_x vs 0 < 1 ∨ (n : Int) ≤ sw_x vs 0) by omega), gc_20, gJ_nI (by omega) (by omega), k1, gk_ca_some]
        exact (cR.ofV k2 w1 rfl).le (by decide) (by decide)
      · rw [if_neg z2, if_pos (Or.inr (by omega))]
        exact cR.vr (vr_err hc 3 (by decide) (by decide)) w1
  · rw [if_neg (by decide), if_neg (by decide), if_neg (by decide), if_neg (by decide), if_pos (by decide)]
    exact h_ofTruths a hc (by decide)
  · rw [if_neg (by decide), if_neg (by decide), if_neg (by decide), if_neg (by decide), if_neg (by decide), if_pos (by decide)]
    exact h_ofTruths a hc (by decide)
  · rw [if_neg (by decide), if_neg (by decide), if_neg (by decide), if_neg (by decide), if_neg (by decide), if_neg (by decide), if_pos (by decide)]
    exact h_ofTruths a hc (by decide)
  · rw [if_neg (by decide), if_neg (by decide), if_neg (by decide), if_neg (by decide), if_neg (by decide), if_neg (by decide), if_neg (by decide), if_pos (by decide)]
    obtain ⟨t1, t2⟩ := tr0 (by omega)
    rw [gc_20, t1, gk_ca_some, ite_B]
    show cR b h S _ (gV_1 (sx (sp_tru (sp_1 (vs 0))).1 (gc_b (!(sp_tru (sp_1 (vs 0))).2)))) 1 7
    by_cases z : (sp_tru (sp_1 (vs 0))).2 = true
    · rw [if_pos z, z]
      exact cR.of (vr_tru hc false) t2 rfl
    · rw [if_neg z, Bool.eq_false_iff.mpr z]
      exact cR.of (vr_tru hc true) t2 rfl
  · rw [if_neg (by decide), if_neg (by decide), if_neg (by decide), if_neg (by decide), if_neg (by decide), if_neg (by decide), if_neg (by decide), if_neg (by decide), if_pos (by decide)]
    exact cR.of (vr_err hc 7 (by decide) (by decide)) (Nat.zero_le _) rfl
  · rw [if_neg (by decide), if_neg (by decide), if_neg (by decide), if_neg (by decide), if_neg (by decide), if_neg (by decide), if_neg (by decide), if_neg (by decide), if_neg (by decide), if_pos (by decide), if_pos (by decide)]
    exact cR.of (vr_tru hc true) (Nat.zero_le _) rfl
  · rw [if_neg (by decide), if_neg (by decide), if_neg (by decide), if_neg (by decide), if_neg (by decide), if_neg (by decide), if_neg (by decide), if_neg (by decide), if_neg (by decide), if_neg (by decide), if_pos (by decide), if_neg (by decide)]
    exact cR.of (vr_tru hc false) (Nat.zero_le _) rfl
  · rw [if_neg (by decide), if_neg (by decide), if_neg (by decide), if_neg (by decide), if_neg (by decide), if_neg (by decide), if_neg (by decide), if_neg (by decide), if_neg (by decide), if_neg (by decide), if_neg (by decide), if_pos (by decide)]
    exact isso (by decide) (by decide)
  · rw [if_neg (by decide), if_neg (by decide), if_neg (by decide), if_neg (by decide), if_neg (by decide), if_neg (by decide), if_neg (by decide), if_neg (by decide), if_neg (by decide), if_neg (by decide), if_neg (by decide), if_neg (by decide), if_pos (by decide)]
    exact isso (by decide) (by decide)
  · rw [if_neg (by decide), if_neg (by decide), if_neg (by decide), if_neg (by decide), if_neg (by decide), if_neg (by decide), if_neg (by decide), if_neg (by decide), if_neg (by decide), if_neg (by decide), if_neg (by decide), if_neg (by decide), if_neg (by decide), if_pos (by decide)]
    exact isso (by decide) (by decide)
  · rw [if_neg (by decide), if_neg (by decide), if_neg (by decide), if_neg (by decide), if_neg (by decide), if_neg (by decide), if_neg (by decide), if_neg (by decide), if_neg (by decide), if_neg (by decide), if_neg (by decide), if_neg (by decide), if_neg (by decide), if_neg (by decide), if_pos (by decide)]
    exact isso (by decide) (by decide)
  · rw [if_neg (by decide), if_neg (by decide), if_neg (by decide), if_neg (by decide), if_neg (by decide), if_neg (by decide), if_neg (by decide), if_neg (by decide), if_neg (by decide), if_neg (by decide), if_neg (by decide), if_neg (by decide), if_neg (by decide), if_neg (by decide), if_neg (by decide), if_pos (by decide)]
    exact isso (by decide) (by decide)
  · rw [if_neg (by decide), if_neg (by decide), if_neg (by decide), if_neg (by decide), if_neg (by decide), if_neg (by decide), if_neg (by decide), if_neg (by decide), if_neg (by decide), if_neg (by decide), if_neg (by decide), if_neg (by decide), if_neg (by decide), if_neg (by decide), if_neg (by decide), if_neg (by decide), if_pos (by decide)]
    exact isso (by decide) (by decide)
  · rw [if_neg (by decide), if_neg (by decide), if_neg (by decide), if_neg (by decide), if_neg (by decide), if_neg (by decide), if_neg (by decide), if_neg (by decide), if_neg (by decide), if_neg (by decide), if_neg (by decide), if_neg (by decide), if_neg (by decide), if_neg (by decide), if_neg (by decide), if_neg (by decide), if_neg (by decide), if_pos (by decide)]
    obtain ⟨j, j1, j2, j3⟩ := so0 (by omega)
    have h4 := j2.1.1
    unfold f_Ch_asNumber f_Ch_asNumber_b20
    simp only [ca_id]
    show cR b h S _ (gV_1 (sx (sp_err (sp_1 (vs 0))) (gc_n (if (sp_1 (vs 0)).1 = 3 then FP.i2d (gI (sp_1 (vs 0)).2.1) else (sp_1 (vs 0)).2.2.1)))) 1 7
    rw [gc_20, j1, gk_ca_some, fl_0 j2.2, fl_1 j2.2, fl_2 j2.2, gI_lit 3, ite_eq _ _ _ _ (by omega) (by decide)]
    by_cases z : (sp_1 (vs 0)).1 = 3
    · rw [if_pos z, if_pos z]
      exact cR.of (vr_n hc (fd_i2df _)) j3 rfl
    · rw [if_neg z, if_neg z]
      exact cR.of (vr_n hc j2.1.2.1) j3 rfl
  · rw [if_neg (by decide), if_neg (by decide), if_neg (by decide), if_neg (by decide), if_neg (by decide), if_neg (by decide), if_neg (by decide), if_neg (by decide), if_neg (by decide), if_neg (by decide), if_neg (by decide), if_neg (by decide), if_neg (by decide), if_neg (by decide), if_neg (by decide), if_neg (by decide), if_neg (by decide), if_neg (by decide), if_pos (by decide)]
    obtain ⟨j, j1, j2, j3⟩ := so0 (by omega)
    obtain ⟨s, s1, s2⟩ := fl_3 j2.2
    have hl := j2.1.2.2.2.2.2.2.2.2.1
    have hw := v_txt (S := gA S (sp_err (sp_1 (vs 0))) row) hc s1 j2.1.2.2.2.2.2.2.2.2.2
    rw [show gc_txt (sp_1 (vs 0)).2.2.2 = gc_t (sp_1 (vs 0)).2.2.2 from if_pos hl] at hw
    rw [gc_20, j1, gk_ca_some, s2]
    exact cR.of hw j3 rfl
  · rw [if_neg (by decide), if_neg (by decide), if_neg (by decide), if_neg (by decide), if_neg (by decide), if_neg (by decide), if_neg (by decide), if_neg (by decide), if_neg (by decide), if_neg (by decide), if_neg (by decide), if_neg (by decide), if_neg (by decide), if_neg (by decide), if_neg (by decide), if_neg (by decide), if_neg (by decide), if_neg (by decide), if_neg (by decide), if_pos (by decide)]
    obtain ⟨i, i1, i2⟩ := a_raw (f := 0) (row := row) a 0 (by omega)
    have i1' : f_Ar_raw (some 20) (0 : Int32) (gv_ov h (gA S 0 row)) = some (some i, gv_ov h (gA S 0 row)) := i1
    obtain ⟨cs, fv⟩ := i2.fld
    have hk5 := gp_kind i2.1
    have ht : f_Ch_typeOf (some i) (gv_ov h (gA S 0 row)) = some (gI (sp_typ (vs 0).1), gv_ov h (gA S 0 row)) := by
      unfold f_Ch_typeOf sp_typ
      rw [fl_0 fv, gI_lit 2, gI_lit 3, gI_lit 4, gI_lit 5, gI_lit 16, gI_lit 64, ite_eq _ _ _ _ (by omega) (by decide), ite_eq _ _ _ _ (by omega) (by decide), ite_eq _ _ _ _ (by omega) (by decide), ite_eq _ _ _ _ (by omega) (by decide)]
      split
      · rfl
      · split
        · rfl
        · split
          · rfl
          · split <;> rfl
    rw [gc_20, i1', gk_ca_some, ht, gk_ca_some]
    exact cR.of (vr_n hc (fd_i2df _)) (Nat.zero_le _) rfl
  · rw [if_neg (by decide), if_neg (by decide), if_neg (by decide), if_neg (by decide), if_neg (by decide), if_neg (by decide), if_neg (by decide), if_neg (by decide), if_neg (by decide), if_neg (by decide), if_neg (by decide), if_neg (by decide), if_neg (by decide), if_neg (by decide), if_neg (by decide), if_neg (by decide), if_neg (by decide), if_neg (by decide), if_neg (by decide), if_neg (by decide), if_pos (by decide)]
    obtain ⟨j, j1, j2⟩ := a_single (f := 0) (row := row) a 0 (by omega)
    have j1' : f_Ar_single (some 20) (0 : Int32) (gv_ov h (gA S 0 row)) = some (some j, gv_ov h (gA S 0 row)) := j1
    have h4 := j2.1.1
    unfold f_Ch_errorNumber f_Ch_errorNumber_b24
    simp only [ca_id]
    show cR b h S _ (gV_1 (if (sp_1 (vs 0)).1 = 4 then gc_n (FP.i2d (gI (sp_1 (vs 0)).2.1)) else gc_e 7)) 1 7
    rw [gc_20, j1', gk_ca_some, fl_0 j2.2, fl_1 j2.2, gI_lit 4, ite_eq _ _ _ _ (by omega) (by decide)]
    by_cases z : (sp_1 (vs 0)).1 = 4
    · rw [if_pos z, if_pos z]
      exact cR.of (vr_n hc (fd_i2df _)) (Nat.zero_le _) rfl
    · rw [if_neg z, if_neg z]
      exact cR.of (vr_err hc 7 (by decide) (by decide)) (Nat.zero_le _) rfl
end CHO
