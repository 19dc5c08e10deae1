/-! THE PURE PART: the reference joins words, stands -/
def jl (ws : Nat → List Nat) : Nat → List Nat
  | 0 => []
  | k + 1 => jl ws k ++ ws k
def mAl (a b : Nat) : Prop := (a = 37 ∧ b = 256) ∨ (a = 38 ∧ 65536 ≤ b ∧ b < 65536 + 256)
/-- the answer's letters so far -/
def mAL (S : gv_S) (l : List Nat) : Prop := S.1 37 256 = gI l.length ∧ ∀ k, k < l.length → S.1 38 (65536 + k) = gI (l.getD k 0)
section MJO
variable {h : gk_H} {S : gv_S} {w : Nat} {l : List Nat} {V : gp_V} {f : Nat} {ws : Nat → List Nat}
theorem jl_le {n : Nat} (hl : ∀ k, k < n → (ws k).length ≤ 255) : ∀ k, k ≤ n → (jl ws k).length ≤ 255 * k
  | 0, _ => Nat.le_refl _
  | k + 1, hk => by
    have := jl_le hl k (by omega)
    have := hl k (by omega)
    rw [jl, List.length_append]
    omega
theorem jl_mono : ∀ (n k : Nat), k ≤ n → (jl ws k).length ≤ (jl ws n).length
  | 0, k, hk => by
    rw [show k = 0 by omega]
    exact Nat.le_refl _
  | n + 1, k, hk => by
    by_cases z : k = n + 1
    · rw [z]
      exact Nat.le_refl _
    · have := jl_mono n k (by omega)
      rw [jl, List.length_append]
      omega
theorem m_add (a : mAL S l) (c : Nat) (hc : c < 128) (hl : l.length < 255) : ∃ S', f_M_add (some 30) (gI c) (gv_ov h S) = some ((), gv_ov h S') ∧ mX mAl S S' ∧ mAL S' (l ++ [c]) := by
  obtain ⟨a1, a2⟩ := a
  have eb : Int8.toInt32 (Int32.toInt8 (gI c)) = gI c := gI_bb hc
  unfold f_M_add
  rw [gr_30_9, gI_lit 256, ga_37 (by decide), a1, gI_lit 255, ite_eq _ _ _ _ (by omega) (by decide), if_neg (by omega), gr_30_10, gI_lit 65536, gI_add, eb, gt_38 (by omega), gI_bb hc, gr_30_9, show gI l.length + (1 : Int32) = gI (l.length + 1) from gI_add _ 1, gt_37 (by decide)]
  refine ⟨_, rfl, (mX.I _ (Or.inr ⟨rfl, by omega, by omega⟩)).trans (mX.I _ (Or.inl ⟨rfl, rfl⟩)), ?_, fun k hk => ?_⟩
  · rw [List.length_append, List.length_singleton]
    exact gu_I2 _ _ _ _
  · rw [List.length_append, List.length_singleton] at hk
    rw [gu_I1 _ _ _ _ _ _ (by omega)]
    by_cases q : k = l.length
    · rw [q, gu_I2, List.getD_eq_getElem?_getD, List.getElem?_append_right (Nat.le_refl _), Nat.sub_self]
      rfl
    · rw [gu_I1 _ _ _ _ _ _ (by omega), List.getD_eq_getElem?_getD, List.getElem?_append_left (by omega), ← List.getD_eq_getElem?_getD]
      exact a2 k (by omega)
theorem mW.al {S' : gv_S} (a : mW S w l) (q : mX mAl S S') : mW S' w l := a.X q fun x y z => by
  unfold mAl at z
  unfold mWd
  omega
theorem mj_in {b61 : Option Nat → Int32 → Int32 → gk_H → Option (Unit × gk_H)} {n k : Nat} {t : List Nat} (hk9 : k < 9) : ∀ (r p : List Nat) (fu : Nat) (T : gv_S) (al : List Nat), t = p ++ r → r.length < fu → mW T k t → mAL T al → al.length + r.length ≤ 255 → ∃ T', f_M_join_b69 b61 fu (some 30) (gI n) (gI k) (gI p.length) (gv_ov h T) = b61 (some 30) (gI n) (gI (k + 1)) (gv_ov h T') ∧ mX mAl T T' ∧ mAL T' (al ++ r) := by
  intro r
  induction r with
  | nil =>
    intro p fu T al e hf a c hl
    obtain ⟨fu, rfl⟩ : ∃ f, fu = f + 1 := ⟨fu - 1, by omega⟩
    have k1 : t.length = p.length := by rw [e]; simp
    have := a.1
    rw [f_M_join_b69]
    dsimp only
    rw [gr_30_14, ga_40 hk9, a.2.2.1, ite_le _ _ _ _ (by omega) (by omega), if_pos (by omega), gk_let_eq, show gI k + (1 : Int32) = gI (k + 1) from gI_add k 1, List.append_nil]
    exact ⟨T, rfl, mX.refl _ _, c⟩
  | cons d r ih =>
    intro p fu T al e hf a c hl
    obtain ⟨fu, rfl⟩ : ∃ f, fu = f + 1 := ⟨fu - 1, by omega⟩
    rw [List.length_cons] at hf hl
    have k1 : t.length = p.length + (r.length + 1) := by rw [e]; simp
    have h255 := a.1
    have gd : t.getD p.length 0 = d := by rw [e]; exact gp_mid p r d
    have d8 := a.2.1 d (by rw [e]; simp)
    obtain ⟨T1, e1, e2, e3⟩ := m_add (h := h) c d d8 (by omega)
    obtain ⟨T2, q1, q2, q3⟩ := ih (p ++ [d]) fu T1 (al ++ [d]) (by rw [e]; simp) (by omega) (a.al e2) e3 (by rw [List.length_append, List.length_singleton]; omega)
    rw [List.length_append, List.length_singleton] at q1
    rw [f_M_join_b69]
    dsimp only
    rw [gr_30_14, ga_40 hk9, a.2.2.1, ite_le _ _ _ _ (by omega) (by omega), if_neg (by omega), gr_30_15, gI_lit 256, gI_mul, gI_add, ga_41 (by omega), a.2.2.2 _ (by omega), gd, gc_30, e1, gk_ca_some, gk_let_eq, show gI p.length + (1 : Int32) = gI (p.length + 1) from gI_add _ 1]
    rw [List.append_assoc] at q3
    exact ⟨T2, q1, e2.trans q2, q3⟩
theorem mj_out {n : Nat} (hn : n ≤ 8) : ∀ (r k fu : Nat) (T : gv_S), k + r = n → r < fu → (∀ j, j < n → mW T j (ws j)) → mAL T (jl ws k) → (jl ws n).length ≤ 255 → ∃ T', f_M_join_b61 fu (some 30) (gI n) (gI k) (gv_ov h T) = some ((), gv_ov h T') ∧ mX mAl T T' ∧ mAL T' (jl ws n) := by
  intro r
  induction r with
  | zero =>
    intro k fu T hk hf hW a hl
    obtain ⟨fu, rfl⟩ : ∃ f, fu = f + 1 := ⟨fu - 1, by omega⟩
    rw [f_M_join_b61]
    dsimp only
    rw [ite_le _ _ _ _ (by omega) (by omega), if_pos (by omega), show n = k by omega]
    exact ⟨T, rfl, mX.refl _ _, a⟩
  | succ r ih =>
    intro k fu T hk hf hW a hl
    obtain ⟨fu, rfl⟩ : ∃ f, fu = f + 1 := ⟨fu - 1, by omega⟩
    have hm := jl_mono (ws := ws) n (k + 1) (by omega)
    rw [jl, List.length_append] at hm
    have h255 := (hW k (by omega)).1
    obtain ⟨T1, e1, e2, e3⟩ := mj_in (h := h) (b61 := f_M_join_b61 fu) (n := n) (show k < 9 by omega) (ws k) [] gk_F T (jl ws k) rfl (by unfold gk_F; omega) (hW k (by omega)) a (by omega)
    obtain ⟨T2, q1, q2, q3⟩ := ih (k + 1) fu T1 (by omega) (by omega) (fun j hj => (hW j hj).al e2) e3 hl
    have e1' : f_M_join_b69 (f_M_join_b61 fu) gk_F (some 30) (gI n) (gI k) (0 : Int32) (gv_ov h T) = _ := e1
    rw [f_M_join_b61]
    dsimp only
    rw [ite_le _ _ _ _ (by omega) (by omega), if_neg (by omega), e1']
    exact ⟨T2, q1, e2.trans q2, q3⟩
theorem m_join {n : Nat} (hn : n ≤ 8) (hW : ∀ k, k < n → mW S k (ws k)) (hok : ∀ k, k < n → okT (ws k)) (hb : S.1 30 11 = gI f) (hf : f ≤ 8) : ∃ S', f_M_join (some 30) (gI n) (gv_ov h S) = some ((), gv_ov h S') ∧ mA (bl f (if 255 < (jl ws n).length then 3 else 0)) (gV_1 (gc_t (jl ws n))) S S' := by
  have hle := jl_le (ws := ws) (n := n) (fun k hk => (hW k hk).1)
  have okj : ∀ k, k ≤ n → okT (jl ws k) := by
    intro k
    induction k with
    | zero => exact fun _ => okT.nil
    | succ k ih => exact fun hk => (ih (by omega)).app (hok k (by omega))
  have zb : ∀ (q : Nat), q ≤ 8 → ∀ {β : Type} (x y : β), (if gI q ≤ (0 : Int32) then x else y) = if q ≤ 0 then x else y := fun q hq _ x y => ite_le x y q 0 (by omega) (by decide)
  have zb0 : ∀ (q : Nat), q ≤ 8 → ∀ {β : Type} (x y : β), (if gI q = (0 : Int32) then x else y) = if q = 0 then x else y := fun q hq _ x y => ite_eq x y q 0 (by omega) (by decide)
  -- bad: nothing is joined
  have no : ∀ (T : gv_S) (e : Nat), 1 ≤ e → e ≤ 8 → T.1 30 11 = gI e → f_M_join_b43 (some 30) (gI n) (gv_ov h T) = some ((), gv_ov h T) := fun T e he he8 hT => by
    unfold f_M_join_b43
    rw [gg_30_11, hT, zb e he8, if_neg (by omega)]
  have yes : f = 0 → (jl ws n).length ≤ 255 → ∃ S', f_M_join_b43 (some 30) (gI n) (gv_ov h S) = some ((), gv_ov h S') ∧ mA 0 (gV_1 (gc_t (jl ws n))) S S' := fun hf0 hl => by
    have hok0 : gp_okC (gc_t []) := gp_okt (Nat.zero_le _) okT.nil
    obtain ⟨S1, e1, e2, e3⟩ := m_setV (h := h) (S := S) 16 (by decide) hok0 rfl 0 fd_0_n (by rw [fd_c0]; exact md_0)
    have e1' : f_M_setSingle (some 30) (16 : Int32) (2 : Int32) (0x0000000000000000) (gv_ov h S) = some ((), gv_ov h S1) := e1
    obtain ⟨v0, v1, v2, v3, v4⟩ := e3
    have c0 := v4 0 (by show 0 < 1 * 1; decide)
    have a1 : mAL S1 (jl ws 0) := ⟨c0.2.2.1, fun k hk => absurd hk (Nat.not_lt_zero k)⟩
    have hW1 : ∀ j, j < n → mW S1 j (ws j) := fun j hj => (hW j hj).X e2 fun x y z => by
      unfold mSet at z
      unfold mWd
      omega
    obtain ⟨S2, q1, q2, q3⟩ := mj_out (h := h) hn n 0 gk_F S1 (Nat.zero_add _) (by unfold gk_F; omega) hW1 a1 hl
    have q1' : f_M_join_b61 gk_F (some 30) (gI n) (0 : Int32) (gv_ov h S1) = some ((), gv_ov h S2) := q1
    unfold f_M_join_b43
    rw [gg_30_11, hb, hf0, zb 0 (by decide), if_pos (Nat.le_refl _), gc_30, e1', gk_ca_some, q1']
    refine ⟨S2, rfl, ?_, fun _ => ?_, (e2.le fun x y z => mSet_st z).trans (q2.le fun x y z => by unfold mAl at z; unfold mSt; omega)⟩
    · rw [q2.i (fun z => by unfold mAl at z; omega), e2.i (fun z => by unfold mSet at z; omega), hb, hf0]
    · refine ⟨gp_ok1 (gp_okt hl (okj n (Nat.le_refl _))), ?_, ?_, ?_, fun j hj => ?_⟩
      · rw [q2.i (fun z => by unfold mAl at z; omega)]
        exact v1
      · rw [q2.i (fun z => by unfold mAl at z; omega)]
        exact v2
      · rw [q2.i (fun z => by unfold mAl at z; omega)]
        exact v3
      · have hj0 : j < 1 * 1 := hj
        have ej : j = 0 := by omega
        subst ej
        refine ⟨?_, ?_, q3.1, fun k hk => q3.2 k hk⟩
        · rw [q2.i (fun z => by unfold mAl at z; omega)]
          exact c0.1
        · rw [q2.d (fun z => by unfold mAl at z; omega)]
          exact c0.2.1
  have loop : ∀ (r k fu : Nat), k + r = n → r < fu → ∃ S', f_M_join_b4 fu (some 30) (gI n) (gI (jl ws k).length) (gI k) (gv_ov h S) = some ((), gv_ov h S') ∧ mA (bl f (if 255 < (jl ws n).length then 3 else 0)) (gV_1 (gc_t (jl ws n))) S S' := by
    intro r
    induction r with
    | zero =>
      intro k fu hk hff
      obtain ⟨fu, rfl⟩ : ∃ f, fu = f + 1 := ⟨fu - 1, by omega⟩
      have ek : k = n := by omega
      subst ek
      have := hle k (Nat.le_refl _)
      rw [f_M_join_b4]
      dsimp only
      rw [ite_le _ _ _ _ (by omega) (by omega), if_pos (Nat.le_refl _), gg_30_11, hb, zb0 f hf, gI_lit 255, ite_le _ _ _ _ (by omega) (by decide)]
      by_cases z : f = 0
      · subst z
        rw [if_pos rfl, bl_n]
        by_cases z2 : (jl ws k).length ≤ 255
        · rw [if_pos z2, if_neg (show ¬ 255 < (jl ws k).length by omega)]
          exact yes rfl z2
        · rw [if_neg z2, if_pos (show 255 < (jl ws k).length by omega), gc_30, gI_lit 3, m_fail 0 3 hb (by decide), gk_ca_some, bl_n, no _ 3 (by decide) (by decide) (gu_I2 _ _ _ _)]
          exact ⟨_, rfl, gu_I2 _ _ _ _, (fun q => by cases q), mX.I _ (Or.inl ⟨rfl, by decide⟩)⟩
      · have eb : bl f (if 255 < (jl ws k).length then 3 else 0) = f := if_neg z
        rw [if_neg z, eb, no S f (by omega) hf hb]
        exact ⟨S, rfl, hb, fun q => absurd q z, mX.refl _ _⟩
    | succ r ih =>
      intro k fu hk hff
      obtain ⟨fu, rfl⟩ : ∃ f, fu = f + 1 := ⟨fu - 1, by omega⟩
      have := hle k (by omega)
      have ih' := ih (k + 1) fu (by omega) (by omega)
      rw [jl, List.length_append] at ih'
      rw [f_M_join_b4]
      dsimp only
      rw [ite_le _ _ _ _ (by omega) (by omega), if_neg (by omega), gr_30_14, ga_40 (by omega), (hW k (by omega)).2.2.1, gk_let_eq, gk_let_eq, gI_add, show gI k + (1 : Int32) = gI (k + 1) from gI_add k 1]
      exact ih'
  exact loop n 0 gk_F (Nat.zero_add _) (by unfold gk_F; omega)
theorem mo_stands (o : Nat) (h1 : 8 ≤ o) (h2 : o ≤ 13) (z : Int) (h : gk_H) : f_M_stands (gI (o - 8)) (gN (sgn z)) h = some (gB (sp_std o z), h) := by
  have hs : -1 ≤ sgn z ∧ sgn z ≤ 1 := by
    unfold sgn
    split
    · omega
    · split <;> omega
  have n0 : (0 : Int32) = gN 0 := rfl
  have e0 : ∀ {β : Type} (x y : β), (if gN (sgn z) = (0 : Int32) then x else y) = if z = 0 then x else y := fun x y => by
    rw [n0, nte_eq _ _ _ _ (by omega) (by omega) (by decide) (by decide)]
    unfold sgn
    by_cases a : z < 0
    · rw [if_pos a, if_neg (by decide), if_neg (by omega)]
    · rw [if_neg a]
      by_cases b : 0 < z
      · rw [if_pos b, if_neg (by decide), if_neg (by omega)]
      · rw [if_neg b, if_pos rfl, if_pos (by omega)]
  have el : ∀ {β : Type} (x y : β), (if gN (sgn z) < (0 : Int32) then x else y) = if z < 0 then x else y := fun x y => by
    rw [n0, nte_lt _ _ _ _ (by omega) (by omega) (by decide) (by decide)]
    unfold sgn
    by_cases a : z < 0
    · rw [if_pos a, if_pos (by decide), if_pos a]
    · rw [if_neg a, if_neg a]
      by_cases b : 0 < z
      · rw [if_pos b, if_neg (by decide)]
      · rw [if_neg b, if_neg (by decide)]
  have ele : ∀ {β : Type} (x y : β), (if gN (sgn z) ≤ (0 : Int32) then x else y) = if z ≤ 0 then x else y := fun x y => by
    rw [n0, nte_le _ _ _ _ (by omega) (by omega) (by decide) (by decide)]
    unfold sgn
    by_cases a : z < 0
    · rw [if_pos a, if_pos (by decide), if_pos (by omega)]
    · rw [if_neg a]
      by_cases b : 0 < z
      · rw [if_pos b, if_neg (by decide), if_neg (by omega)]
      · rw [if_neg b, if_pos (by decide), if_pos (by omega)]
  have ege : ∀ {β : Type} (x y : β), (if (0 : Int32) ≤ gN (sgn z) then x else y) = if 0 ≤ z then x else y := fun x y => by
    rw [n0, nte_le _ _ _ _ (by decide) (by decide) (by omega) (by omega)]
    unfold sgn
    by_cases a : z < 0
    · rw [if_pos a, if_neg (by decide), if_neg (by omega)]
    · rw [if_neg a, if_pos (show 0 ≤ z by omega)]
      by_cases b : 0 < z
      · rw [if_pos b, if_pos (by decide)]
      · rw [if_neg b, if_pos (by decide)]
  have egt : ∀ {β : Type} (x y : β), (if (0 : Int32) < gN (sgn z) then x else y) = if 0 < z then x else y := fun x y => by
    rw [n0, nte_lt _ _ _ _ (by decide) (by decide) (by omega) (by omega)]
    unfold sgn
    by_cases a : z < 0
    · rw [if_pos a, if_neg (by decide), if_neg (by omega)]
    · rw [if_neg a]
      by_cases b : 0 < z
      · rw [if_pos b, if_pos (by decide), if_pos b]
      · rw [if_neg b, if_neg (by decide), if_neg b]
  have fin : ∀ (P : Prop) [Decidable P] (x : Bool), x = decide P → (if P then some ((1 : Int32), h) else some ((0 : Int32), h)) = some (gB x, h) := by
    intro P _ x hx
    by_cases q : P
    · rw [if_pos q, hx, decide_eq_true q]
      rfl
    · rw [if_neg q, hx, decide_eq_false q]
      rfl
  have fin2 : ∀ (P : Prop) [Decidable P] (x : Bool), x = decide (¬ P) → (if P then some ((0 : Int32), h) else some ((1 : Int32), h)) = some (gB x, h) := by
    intro P _ x hx
    by_cases q : P
    · rw [if_pos q, hx, decide_eq_false (fun w => w q)]
      rfl
    · rw [if_neg q, hx, decide_eq_true q]
      rfl
  unfold f_M_stands f_M_stands_b93
  simp only [e0, el, ele, ege, egt]
  rw [nb0, nb1]
  have ho : o = 8 ∨ o = 9 ∨ o = 10 ∨ o = 11 ∨ o = 12 ∨ o = 13 := by omega
  rcases ho with rfl | rfl | rfl | rfl | rfl | rfl
  · rw [if_pos (by decide)]
    exact fin _ _ rfl
  · rw [if_neg (by decide), if_pos (by decide)]
    exact fin2 _ _ rfl
  · rw [if_neg (by decide), if_neg (by decide), if_pos (by decide)]
    exact fin2 _ _ (by show decide (z < 0) = _; by_cases q : z < 0 <;> simp [q] <;> omega)
  · rw [if_neg (by decide), if_neg (by decide), if_neg (by decide), if_pos (by decide)]
    exact fin2 _ _ (by show decide (0 < z) = _; by_cases q : 0 < z <;> simp [q] <;> omega)
  · rw [if_neg (by decide), if_neg (by decide), if_neg (by decide), if_neg (by decide), if_pos (by decide)]
    exact fin2 _ _ (by show decide (z ≤ 0) = _; by_cases q : z ≤ 0 <;> simp [q] <;> omega)
  · rw [if_neg (by decide), if_neg (by decide), if_neg (by decide), if_neg (by decide), if_neg (by decide)]
    exact fin2 _ _ (by show decide (0 ≤ z) = _; by_cases q : 0 ≤ z <;> simp [q] <;> omega)
end MJO
