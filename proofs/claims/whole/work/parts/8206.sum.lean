/-! THE PURE PART: products, those that meet, functions 0 to 18 (class) -/
def foN (g : UInt64 → UInt64 → UInt64) (am : Nat → UInt64) : Nat → Nat → UInt64 → UInt64
  | 0, _, a => a
  | m + 1, k, a => if fin a then foN g am m (k + 1) (g a (am k)) else a
theorem foN_n (g : UInt64 → UInt64 → UInt64) (am : Nat → UInt64) (hg : ∀ a x, fd_f a → fd_f x → fd_n (g a x)) : ∀ (m k : Nat) (a : UInt64), fd_n a → (∀ j, k ≤ j → j < k + m → fd_f (am j)) → fd_n (foN g am m k a)
  | 0, _, _, h, _ => h
  | m + 1, k, a, h, hx => by
    rw [foN]
    split
    · rename_i z
      exact foN_n g am hg m (k + 1) _ (hg _ _ ((fin_f h).mp z) (hx k (Nat.le_refl _) (by omega))) fun j h1 h2 => hx j (by omega) (by omega)
    · exact h
def sp_pat (vs : Nat → gp_V) (n p : Nat) : UInt64 := foN FP.dmul (fun k => ((vs k).2.2.2 p).2.2.1) n 0 0x3ff0000000000000
def sp_sop (pr : Nat → UInt64) : Nat → Nat → UInt64 → gp_C
  | 0, _, s => gc_num s
  | m + 1, k, s => if fin s then (if fin (pr k) then sp_sop pr m (k + 1) (FP.dadd s (pr k)) else gc_e 6) else gc_num s
def sb_err (vs : Nat → gp_V) : Nat → Nat
  | 0 => 0
  | k + 1 => bl (sb_err vs k) (sc_err (vs k).2.2.2 (cellsN (vs k)))
def sameSh (V W : gp_V) : Bool := decide (V.2.1 = W.2.1 ∧ V.2.2.1 = W.2.2.1)
def sb_same (vs : Nat → gp_V) : Nat → Bool
  | 0 => true
  | k + 1 => sb_same vs k && sameSh (vs 0) (vs k)
theorem sb_same_at {vs : Nat → gp_V} : ∀ {n : Nat}, sb_same vs n = true → ∀ k, k < n → (vs 0).2.1 = (vs k).2.1 ∧ (vs 0).2.2.1 = (vs k).2.2.1
  | 0, _, k, hk => absurd hk (Nat.not_lt_zero k)
  | n + 1, h, k, hk => by
    rw [sb_same, Bool.and_eq_true] at h
    by_cases z : k = n
    · rw [z]
      exact of_decide_eq_true h.2
    · exact sb_same_at h.1 k (by omega)
def sp_prod (vs : Nat → gp_V) (n : Nat) : gp_C := sx (sb_err vs n) (if sb_same vs n = true then sp_sop (sp_pat vs n) (cellsN (vs 0)) 0 0 else gc_e 3)
section SUM
variable {b n : Nat} {h : gk_H} {S : gv_S} {vs : Nat → gp_V} {f : Nat} {row : List UInt64} {j i : Nat} {c : gp_C}
theorem g_productAt (a : ga b h S vs n) (p : Nat) (hp : ∀ k, k < n → p < cellsN (vs k)) : f_Su_productAt (some 20) (gI p) (gv_ov h (gA S f row)) = some (sp_pat vs n p, gv_ov h (gA S f row)) := by
  have hn := a.1
  have hfin : ∀ k, k < n → fd_f ((vs k).2.2.2 p).2.2.1 := fun k hk => ((a.ok k hk).2.2.2.1 p (hp k hk)).2.1
  have loop : ∀ (r k fu : Nat) (x : UInt64), k + r = n → r < fu → fd_n x → f_Su_productAt_b5 fu (some 20) (gI p) x (gI k) (gv_ov h (gA S f row)) = some (foN FP.dmul (fun k => ((vs k).2.2.2 p).2.2.1) r k x, gv_ov h (gA S f row)) := by
    intro r
    induction r with
    | zero =>
      intro k fu x hk hf hx
      obtain ⟨fu, rfl⟩ : ∃ f, fu = f + 1 := ⟨fu - 1, by omega⟩
      rw [f_Su_productAt_b5]
      dsimp only
      rw [gc_20, a_many a, gk_ca_some, ite_le _ _ _ _ (by omega) (by omega), if_pos (by omega)]
      rfl
    | succ r ih =>
      intro k fu x hk hf hx
      obtain ⟨fu, rfl⟩ : ∃ f, fu = f + 1 := ⟨fu - 1, by omega⟩
      obtain ⟨i, i1, i2⟩ := a_raw (f := f) (row := row) a k (by omega)
      obtain ⟨j, j1, j2⟩ := v_at (S := gA S f row) i2 p (hp k (by omega))
      obtain ⟨cs, fv⟩ := i2.fld
      rw [f_Su_productAt_b5]
      dsimp only
      rw [gc_20, a_many a, gk_ca_some, ite_le _ _ _ _ (by omega) (by omega), if_neg (by omega), v_isFinite hx, gk_ca_some, foN]
      by_cases z : fin x
      · have hm : fd_n (FP.dmul x ((vs k).2.2.2 p).2.2.1) := fd_mul_n ((fin_f hx).mp z) (hfin k (by omega))
        rw [if_pos z, if_pos z, if_neg (by decide), gc_20, i1, gk_ca_some, fl_cv fv, j1, gk_ca_some, fl_2 j2.2, fd_dop hm, gk_let_eq, show gI k + (1 : Int32) = gI (k + 1) from gI_add k 1]
        exact ih (k + 1) fu _ (by omega) (by omega) hm
      · rw [if_neg z, if_neg z, if_pos rfl]
        rfl
  unfold f_Su_productAt
  exact loop n 0 gk_F _ (by omega) (by unfold gk_F; omega) fd_1_f.n
theorem sp_pat_n (a : ga b h S vs n) (p : Nat) (hp : ∀ k, k < n → p < cellsN (vs k)) : fd_n (sp_pat vs n p) := foN_n _ _ (fun _ _ h1 h2 => fd_mul_n h1 h2) n 0 _ fd_1_f.n fun j _ hj => ((a.ok j (by omega)).2.2.2.1 p (hp j (by omega))).2.1
theorem sb_err_le (a : ga b h S vs n) : ∀ k, k ≤ n → sb_err vs k ≤ 8
  | 0, _ => Nat.zero_le _
  | k + 1, hk => bl_le (sb_err_le a k (by omega)) (sc_err_le _ fun m hm => (a.ok k (by omega)).2.2.2.1 m hm)
theorem v_shapeB {V W : gp_V} (a : gp_val b h i V) (c : gp_val b h j W) : f_Va_isOfShape (some i) (some j) (gv_ov h S) = some (gB (sameSh V W), gv_ov h S) := by
  rw [v_shape a c]
  unfold gB sameSh
  simp only [decide_eq_true_eq]
theorem g_prod (a : ga b h S vs n) (hc : gp_cs b h) (hn1 : 1 ≤ n) : cR b h S (f_Su_sumOfProducts (some 20) (gv_ov h (gA S 0 row))) (gV_1 (sp_prod vs n)) 1 7 := by
  have hn := a.1
  obtain ⟨i, i1, i2⟩ := a_raw (f := 0) (row := row) a 0 (by omega)
  obtain ⟨cs, fv⟩ := i2.fld
  have h16 : cellsN (vs 0) ≤ 16 := i2.1.2.2.1
  have he := sb_err_le a n (Nat.le_refl _)
  have l2 : sb_same vs n = true → ∀ (r k fu : Nat) (s : UInt64), k + r = cellsN (vs 0) → r < fu → fd_n s → vR b h (gA S (sb_err vs n) row) (f_Su_sumOfProducts_b65 fu (some 20) (some i) s (gI k) (gv_ov h (gA S (sb_err vs n) row))) (sp_sop (sp_pat vs n) r k s) := by
    intro hsm r
    have hcn : ∀ k, k < n → cellsN (vs k) = cellsN (vs 0) := fun k hk => by
      obtain ⟨q1, q2⟩ := sb_same_at hsm k hk
      unfold cellsN
      rw [q1, q2]
    induction r with
    | zero =>
      intro k fu s hk hf hs
      obtain ⟨fu, rfl⟩ : ∃ f, fu = f + 1 := ⟨fu - 1, by omega⟩
      rw [f_Su_sumOfProducts_b65]
      unfold f_Su_sumOfProducts_b114
      simp only [ca_id]
      unfold cellsN at hk h16
      rw [fl_cv fv, v_many i2, gk_ca_some, ite_le _ _ _ _ (by omega) (by omega), if_pos (by omega)]
      exact vr_num hc hs
    | succ r ih =>
      intro k fu s hk hf hs
      obtain ⟨fu, rfl⟩ : ∃ f, fu = f + 1 := ⟨fu - 1, by omega⟩
      have hp : ∀ m, m < n → k < cellsN (vs m) := fun m hm => by rw [hcn m hm]; omega
      have hpn := sp_pat_n a k hp
      rw [f_Su_sumOfProducts_b65]
      unfold f_Su_sumOfProducts_b114
      simp only [ca_id]
      have hk' := hk
      unfold cellsN at hk' h16
      rw [fl_cv fv, v_many i2, gk_ca_some, ite_le _ _ _ _ (by omega) (by omega), if_neg (by omega), v_isFinite hs, gk_ca_some, sp_sop]
      by_cases z : fin s
      · rw [if_pos z, if_pos z, if_neg (by decide), g_productAt a k hp, gk_ca_some, v_isFinite hpn, gk_ca_some]
        by_cases z2 : fin (sp_pat vs n k)
        · have hm := fd_add_n ((fin_f hs).mp z) ((fin_f hpn).mp z2)
          rw [if_pos z2, if_pos z2, if_neg (by decide), fd_dop hm, gk_let_eq, show gI k + (1 : Int32) = gI (k + 1) from gI_add k 1]
          exact ih (k + 1) fu _ (by omega) (by omega) hm
        · rw [if_neg z2, if_neg z2, if_pos rfl]
          exact vr_err hc 6 (by decide) (by decide)
      · rw [if_neg z, if_neg z, if_pos rfl]
        exact vr_num hc hs
  have l1 : ∀ (r k fu : Nat), k + r = n → r < fu → cR b h S (f_Su_sumOfProducts_b10 fu (some 20) (some i) (gB (sb_same vs k)) (gI k) (gv_ov h (gA S (sb_err vs k) row))) (gV_1 (sp_prod vs n)) 1 7 := by
    intro r
    induction r with
    | zero =>
      intro k fu hk hf
      obtain ⟨fu, rfl⟩ : ∃ f, fu = f + 1 := ⟨fu - 1, by omega⟩
      rw [f_Su_sumOfProducts_b10]
      simp only [ca_id]
      rw [gc_20, a_many a, gk_ca_some, ite_le _ _ _ _ (by omega) (by omega), if_pos (by omega), ite_B, show k = n by omega]
      by_cases z : sb_same vs n = true
      · rw [if_pos z]
        exact cR.of (l2 z _ 0 gk_F 0 (Nat.zero_add _) (by unfold gk_F; omega) fd_0_n) he (by unfold sp_prod; rw [if_pos z])
      · rw [if_neg z]
        exact cR.of (vr_err hc 3 (by decide) (by decide)) he (by unfold sp_prod; rw [if_neg z])
    | succ r ih =>
      intro k fu hk hf
      obtain ⟨fu, rfl⟩ : ∃ f, fu = f + 1 := ⟨fu - 1, by omega⟩
      have ih' := ih (k + 1) fu (by omega) (by omega)
      have hbl := a_blameCells (row := row) a k (by omega) (sb_err_le a k (by omega))
      obtain ⟨j, j1, j2⟩ := a_raw (f := bl (sb_err vs k) (sc_err (vs k).2.2.2 (cellsN (vs k)))) (row := row) a k (by omega)
      have hsh := v_shapeB (S := gA S (bl (sb_err vs k) (sc_err (vs k).2.2.2 (cellsN (vs k)))) row) i2 j2
      rw [show (vs k).2.1 * (vs k).2.2.1 = cellsN (vs k) from rfl] at hbl
      rw [sb_same, sb_err] at ih'
      rw [f_Su_sumOfProducts_b10]
      unfold f_Su_sumOfProducts_b43 f_Su_sumOfProducts_b44
      dsimp only
      rw [gc_20, a_many a, gk_ca_some, ite_le _ _ _ _ (by omega) (by omega), if_neg (by omega), gc_20, hbl, gk_ca_some, ite_B, gk_let_eq, show gI k + (1 : Int32) = gI (k + 1) from gI_add k 1]
      by_cases z : sb_same vs k = true
      · rw [if_pos z, gc_20, j1, gk_ca_some, fl_cv fv, hsh, gk_ca_some, ite_B]
        rw [z, Bool.true_and] at ih'
        by_cases z2 : sameSh (vs 0) (vs k) = true
        · rw [if_pos z2]
          rw [z2] at ih'
          exact ih'
        · rw [if_neg z2, gk_let_eq]
          rw [Bool.eq_false_iff.mpr z2] at ih'
          exact ih'
      · rw [if_neg z]
        rw [Bool.eq_false_iff.mpr z, Bool.false_and] at ih'
        exact ih'
  unfold f_Su_sumOfProducts
  rw [gc_20, show (0 : Int32) = gI 0 from rfl, i1, gk_ca_some]
  exact l1 n 0 gk_F (by omega) (by unfold gk_F; omega)
theorem gA_self {T : gv_S} (q : mX mLk (gA S f row) T) : T = gA T f row := by
  have e1 : T.1 20 3 = gI f := q.i (fun z => by unfold mLk at z; omega)
  have e2 : T.1 20 5 = gI row.length := q.i (fun z => by unfold mLk at z; omega)
  have e3 : ∀ k, k < row.length → T.2.1 23 k = row.getD k 0 := fun k hk => by
    rw [q.d (x := 23) (y := k) (fun z => by unfold mLk at z; omega)]
    exact if_pos ⟨rfl, hk⟩
  unfold gA
  refine Prod.ext (funext fun x => funext fun y => ?_) (Prod.ext (funext fun x => funext fun y => ?_) rfl)
  · dsimp only
    split
    · rename_i z
      rw [z.1, z.2, e1]
    · split
      · rename_i z
        rw [z.1, z.2, e2]
      · rfl
  · dsimp only
    split
    · rename_i z
      rw [z.1, e3 y z.2]
    · rfl
theorem gA_mX {T : gv_S} (q : mX mLk (gA S f row) T) : gc_fr S T := by
  refine ⟨fun x y hx => ?_, ?_⟩
  · have e := q.1 x y (fun z => by unfold mLk at z; omega)
    have e2 := (gA_fr S f row).1 x y hx
    exact ⟨e.1.trans e2.1, e.2.trans e2.2.1, by rw [q.2]; exact e2.2.2⟩
  · rw [q.2]
    rfl
theorem ga.mX {T : gv_S} (a : ga b h S vs n) (q : mX mLk (gA S f row) T) : ga b h T vs n := by
  refine ⟨a.1, ?_, ?_⟩
  · rw [q.i (x := 20) (y := 2) (fun z => by unfold mLk at z; omega)]
    exact a.2.1
  · rw [q.2]
    exact a.2.2
def sp_otm (g rel : Nat) (w : gp_C) (L U : Nat → gp_C) : Nat → Nat → Nat → Nat → UInt64 → Nat × Nat × UInt64
  | 0, _, me, nu, s => (me, nu, s)
  | m + 1, k, me, nu, s => if fin s then (if sp_met rel w (L k) = true then sp_otm g rel w L U m (k + 1) (me + 1) (nu + if (U k).1 = 1 then 1 else 0) (FP.dadd s (if g = 16 then 0 else (U k).2.2.1)) else sp_otm g rel w L U m (k + 1) me nu s) else (me, nu, s)
def sp_otmR (g : Nat) (q : Nat × Nat × UInt64) : gp_C := if g = 16 then gc_n (FP.i2d (gI q.1)) else if g = 17 then gc_num q.2.2 else if q.2.1 = 0 then gc_e 2 else gc_num (FP.ddiv q.2.2 (FP.i2d (gI q.2.1)))
def sp_otM (g : Nat) (vs : Nat → gp_V) (U : gp_V) : gp_C := if sameSh U (vs 0) = true then sp_otmR g (sp_otm g (sp_rel (sp_1 (vs 1)).2.2.2) (sp_wan (sp_1 (vs 1))) (vs 0).2.2.2 U.2.2.2 (cellsN (vs 0)) 0 0 0 0) else gc_e 3
def sp_those (g : Nat) (vs : Nat → gp_V) (n : Nat) : gp_C := sx (sp_err (sp_1 (vs 1))) (sp_otM g vs (if 2 < n then vs 2 else vs 0))
theorem g_those (a : ga b h S vs n) (hc : gp_cs b h) (g : Nat) (hg : g = 16 ∨ g = 17 ∨ g = 18) (hn2 : 2 ≤ n) : cR b h S (f_Su_ofThoseMeeting (gI g) (some 20) (gv_ov h (gA S 0 row))) (gV_1 (sp_those g vs n)) 5 280 := by
  have hn := a.1
  obtain ⟨i, i1, i2⟩ := a_raw (f := 0) (row := row) a 0 (by omega)
  obtain ⟨j, j1, j2⟩ := a_soundE (f := 0) (row := row) a 1 (by omega) (by omega)
  rw [show bl 0 (sp_err (sp_1 (vs 1))) = sp_err (sp_1 (vs 1)) from rfl] at j1
  have he := sp_err_le (sp_1_ok (a.ok 1 (by omega)))
  obtain ⟨r, w, h1, T1, r1, r2, r3, r4, r5, r6⟩ := c_of hc j2 (gA S (sp_err (sp_1 (vs 1))) row)
  have hc1 := hc.ext r6
  have s1 := gA_self r2
  have a1 : ga b h1 T1 vs n := (a.mX r2).ext r6
  have hrel := sp_rel_b (sp_1 (vs 1)).2.2.2
  have i2' := i2.ext r6
  obtain ⟨cs, fv⟩ := i2'.fld
  have h16 : cellsN (vs 0) ≤ 16 := i2.1.2.2.1
  have gcr : ∀ {α β : Type} (T : gv_S) (x : Option (α × gk_H)) (K : α → gk_H → Option β), gk_cv (gv_ov h1 T) (some r) 6 x K = gk_ca x K := fun T x K => gp_cv r3.2.1.1 r3.2.2.1 x K
  have core : ∀ (U : gp_V) (u : Nat), gp_val b h1 u U → cR b h S (f_Su_ofThoseMeeting_b36 (gI g) (some i) (some r) (some u) (gv_ov h1 T1)) (gV_1 (sx (sp_err (sp_1 (vs 1))) (sp_otM g vs U))) 5 280 := by
    intro U u hu
    obtain ⟨cu, fu'⟩ := hu.fld
    have endK : ∀ (T : gv_S) (me nu : Nat) (s : UInt64), me ≤ 16 → nu ≤ 16 → fd_n s → (∃ x h2, (f_Su_ofThoseMeeting_b152 (gI g) (gI me) (gI nu) s (gv_ov h1 T)) = some (some x, gv_ov h2 T) ∧ gp_cell b h2 x (sp_otmR g (me, nu, s)) ∧ gp_ext 1 7 h1 h2) := by
      intro T me nu s hm hn hs
      unfold f_Su_ofThoseMeeting_b152 f_Su_ofThoseMeeting_b198 sp_otmR
      simp only [ca_id]
      rw [gI_lit 16, gI_lit 17, ite_eq _ _ _ _ (by omega) (by decide), ite_eq _ _ _ _ (by omega) (by decide), gI_0, ite_eq _ _ _ _ (by omega) (by decide)]
      by_cases z : g = 16
      · rw [if_pos z, if_pos z]
        exact vr_n hc1 (fd_i2df _)
      · rw [if_neg z, if_neg z]
        by_cases z2 : g = 17
        · rw [if_pos z2, if_pos z2]
          exact vr_num hc1 hs
        · rw [if_neg z2, if_neg z2]
          by_cases z3 : nu = 0
          · rw [if_pos z3, if_pos z3]
            exact vr_err hc1 2 (by decide) (by decide)
          · obtain ⟨d1, d2⟩ := fd_i2nz (j := nu) (by omega) (by omega)
            have hd := fd_ddiv hs d1 d2
            rw [if_neg z3, if_neg z3, fd_dop hd]
            exact vr_num hc1 hd
    have fin' : ∀ (T : gv_S) (c : gp_C), mX mLk (gA S (sp_err (sp_1 (vs 1))) row) T → ∀ x : Option (Option Nat × gk_H), (∃ y h2, x = some (some y, gv_ov h2 T) ∧ gp_cell b h2 y c ∧ gp_ext 1 7 h1 h2) → cR b h S x (gV_1 (sx (sp_err (sp_1 (vs 1))) c)) 5 280 := by
      intro T c hT x ⟨y, h2, q1, q2, q3⟩
      have sT := gA_self hT
      refine ⟨y, h2, T, sp_err (sp_1 (vs 1)), row, gV_1 c, ?_, q2.val, r6.trans q3, gA_mX hT, he, ?_⟩
      · rw [← sT]
        exact q1
      · unfold sx
        split <;> rfl
    unfold f_Su_ofThoseMeeting_b36
    rw [fl_cv fu', v_shapeB hu i2', gk_ca_some, ite_B]
    unfold sp_otM
    by_cases zs : sameSh U (vs 0) = true
    · rw [if_pos zs, if_pos zs]
      have esh := of_decide_eq_true zs
      have eN : cellsN U = cellsN (vs 0) := by
        unfold cellsN
        rw [esh.1, esh.2]
      have loop : ∀ (m k fu me nu : Nat) (s : UInt64) (T : gv_S), k + m = cellsN (vs 0) → m < fu → me ≤ k → nu ≤ k → fd_n s → mX mLk (gA S (sp_err (sp_1 (vs 1))) row) T → lkM T (lk_tk (sp_wan (sp_1 (vs 1))).2.2.2) → cR b h S (f_Su_ofThoseMeeting_b64 fu (gI g) (some i) (some r) (some u) (gI me) (gI nu) s (gI k) (gv_ov h1 T)) (gV_1 (sx (sp_err (sp_1 (vs 1))) (sp_otmR g (sp_otm g (sp_rel (sp_1 (vs 1)).2.2.2) (sp_wan (sp_1 (vs 1))) (vs 0).2.2.2 U.2.2.2 m k me nu s)))) 5 280 := by
        intro m
        induction m with
        | zero =>
          intro k fu me nu s T hk hf hm hnu hs hT hM
          obtain ⟨fu, rfl⟩ : ∃ f, fu = f + 1 := ⟨fu - 1, by omega⟩
          rw [f_Su_ofThoseMeeting_b64]
          dsimp only
          have hk' := hk
          unfold cellsN at hk' h16
          rw [fl_cv fv, v_many i2', gk_ca_some, ite_le _ _ _ _ (by omega) (by omega), if_pos (by omega)]
          exact fin' T _ hT _ (endK T me nu s (by omega) (by omega) hs)
        | succ m ih =>
          intro k fu me nu s T hk hf hm hnu hs hT hM
          obtain ⟨fu, rfl⟩ : ∃ f, fu = f + 1 := ⟨fu - 1, by omega⟩
          rw [f_Su_ofThoseMeeting_b64]
          dsimp only
          have hk' := hk
          unfold cellsN at hk' h16
          rw [fl_cv fv, v_many i2', gk_ca_some, ite_le _ _ _ _ (by omega) (by omega), if_neg (by omega), v_isFinite hs, gk_ca_some, sp_otm]
          by_cases z : fin s
          · obtain ⟨l, l1, l2⟩ := v_at (S := T) i2' k (by omega)
            obtain ⟨T2, m1, m2, m3⟩ := c_met hc1.1 r3 r4 l2 hrel T hM
            obtain ⟨x, x1, x2⟩ := v_at (S := T2) hu k (by unfold cellsN at eN; omega)
            have hT2 := hT.trans m2
            rw [if_pos z, if_pos z, if_neg (by decide), fl_cv fv, l1, gk_ca_some, gcr, m1, gk_ca_some, ite_B]
            by_cases zm : sp_met (sp_rel (sp_1 (vs 1)).2.2.2) (sp_wan (sp_1 (vs 1))) ((vs 0).2.2.2 k) = true
            · have b146 : ∀ (y : UInt64) (d : Nat), d ≤ 1 → fd_f y → cR b h S (gk_dop (FP.dadd s y) fun x1 => f_Su_ofThoseMeeting_b146 (f_Su_ofThoseMeeting_b64 fu) (gI g) (some i) (some r) (some u) (gI (me + 1)) (gI (nu + d)) x1 (gI k) (gv_ov h1 T2)) (gV_1 (sx (sp_err (sp_1 (vs 1))) (sp_otmR g (sp_otm g (sp_rel (sp_1 (vs 1)).2.2.2) (sp_wan (sp_1 (vs 1))) (vs 0).2.2.2 U.2.2.2 m (k + 1) (me + 1) (nu + d) (FP.dadd s y))))) 5 280 := by
                intro y d hd hy
                have hm' := fd_add_n ((fin_f hs).mp z) hy
                unfold f_Su_ofThoseMeeting_b146
                rw [fd_dop hm', gk_let_eq, show gI k + (1 : Int32) = gI (k + 1) from gI_add k 1]
                exact ih (k + 1) fu (me + 1) (nu + d) _ T2 (by omega) (by omega) (by omega) (by omega) hm' hT2 m3
              have b118 : ∀ d : Nat, d = (if (U.2.2.2 k).1 = 1 then 1 else 0) → cR b h S (f_Su_ofThoseMeeting_b118 (f_Su_ofThoseMeeting_b64 fu) (gI g) (some i) (some r) (some u) (gI (me + 1)) s (gI k) (gI nu) (gI d) (gv_ov h1 T2)) (gV_1 (sx (sp_err (sp_1 (vs 1))) (sp_otmR g (sp_otm g (sp_rel (sp_1 (vs 1)).2.2.2) (sp_wan (sp_1 (vs 1))) (vs 0).2.2.2 U.2.2.2 m (k + 1) (me + 1) (nu + if (U.2.2.2 k).1 = 1 then 1 else 0) (FP.dadd s (if g = 16 then 0 else (U.2.2.2 k).2.2.1)))))) 5 280 := by
                intro d hd
                have hd1 : d ≤ 1 := by rw [hd]; split <;> omega
                rw [← hd]
                unfold f_Su_ofThoseMeeting_b118 f_Su_ofThoseMeeting_b143
                rw [gk_let_eq, gI_add, gI_lit 16, ite_eq _ _ _ _ (by omega) (by decide)]
                by_cases z16 : g = 16
                · rw [if_pos z16, if_pos z16]
                  exact b146 0 d hd1 fd_f0
                · rw [if_neg z16, if_neg z16, fl_cv fu', x1, gk_ca_some, fl_2 x2.2]
                  exact b146 _ d hd1 x2.1.2.1
              have hx0 := x2.1.1
              rw [if_pos zm, if_pos zm, gk_let_eq, show gI me + (1 : Int32) = gI (me + 1) from gI_add me 1, fl_cv fu', x1, gk_ca_some, fl_0 x2.2, gI_1, ite_eq _ _ _ _ (by omega) (by decide)]
              by_cases z1 : (U.2.2.2 k).1 = 1
              · rw [if_pos z1]
                exact b118 1 (by rw [if_pos z1])
              · rw [if_neg z1]
                exact b118 0 (by rw [if_neg z1])
            · unfold f_Su_ofThoseMeeting_b146
              rw [if_neg zm, if_neg zm, gk_let_eq, show gI k + (1 : Int32) = gI (k + 1) from gI_add k 1]
              exact ih (k + 1) fu me nu s T2 (by omega) (by omega) (by omega) (by omega) hs hT2 m3
          · rw [if_neg z, if_neg z, if_pos rfl]
            exact fin' T _ hT _ (endK T me nu s (by omega) (by omega) hs)
      exact loop _ 0 gk_F 0 0 0 T1 (Nat.zero_add _) (by unfold gk_F; omega) (Nat.le_refl _) (Nat.le_refl _) fd_0_n r2 r5
    · simp only [ca_id]
      rw [if_neg zs, if_neg zs]
      exact fin' T1 _ r2 _ (vr_err hc1 3 (by decide) (by decide))
  unfold f_Su_ofThoseMeeting
  have j1' : f_Ar_sound (some 20) (1 : Int32) (gv_ov h (gA S 0 row)) = some (some j, gv_ov h (gA S (sp_err (sp_1 (vs 1))) row)) := j1
  have i1' : f_Ar_raw (some 20) (0 : Int32) (gv_ov h (gA S 0 row)) = some (some i, gv_ov h (gA S 0 row)) := i1
  have am : f_Ar_howMany (some 20) (gv_ov h1 T1) = some (gI n, gv_ov h1 T1) := by rw [s1]; exact a_many a1
  rw [gc_20, i1', gk_ca_some, gc_20, j1', gk_ca_some, gr_20_8, r1, gk_ca_some, gc_20, am, gk_ca_some, gI_lit 2, ite_le _ _ _ _ (by omega) (by decide)]
  unfold sp_those
  by_cases z : n ≤ 2
  · rw [if_pos z, if_neg (show ¬ 2 < n by omega)]
    exact core (vs 0) i i2'
  · have ar : ∃ u, f_Ar_raw (some 20) (gI 2) (gv_ov h1 T1) = some (some u, gv_ov h1 T1) ∧ gp_val b h1 u (vs 2) := by rw [s1]; exact a_raw a1 2 (by omega)
    obtain ⟨u, u1, u2⟩ := ar
    rw [if_neg z, if_pos (show 2 < n by omega), gc_20, u1, gk_ca_some]
    exact core (vs 2) u u2
def sp_su (g : Nat) (vs : Nat → gp_V) (n : Nat) : gp_C :=
  if g = 6 ∨ g = 7 ∨ g = 8 then gc_n (FP.i2d (gI (sg_cnt g vs n)))
  else if g = 10 ∨ g = 11 then sp_rk g vs
  else if g = 12 then sp_rank vs
  else if g = 15 then sp_prod vs n
  else if g = 16 ∨ g = 17 ∨ g = 18 then sp_those g vs n
  else sx (sg_err vs n) (sp_fig g (sg_row vs n))
theorem g_answer (a : ga b h S vs n) (hc : gp_cs b h) (g : Nat) (hg : g ≤ 18) (hn1 : 1 ≤ n) (hn2 : g = 10 ∨ g = 11 ∨ g = 12 ∨ g = 16 ∨ g = 17 ∨ g = 18 → 2 ≤ n) : cR b h S (f_Su_answer (gI g) (some 20) (gv_ov h (gA S 0 []))) (gV_1 (sp_su g vs n)) 5 280 := by
  have hn := a.1
  unfold f_Su_answer f_Su_answer_b68 f_Su_answer_b96 f_Su_answer_b74 f_Su_answer_b90
  simp only [ca_id]
  have r0 : g = 0 ∨ g = 1 ∨ g = 2 ∨ g = 3 ∨ g = 4 ∨ g = 5 ∨ g = 9 ∨ g = 13 ∨ g = 14 → cR b h S (gk_cv (gv_ov h (gA S 0 [])) (some 20) 4 (f_Ar_gather (some 20) (gv_ov h (gA S 0 []))) fun _ h1 => f_Su_ofRow (gI g) (some 20) h1) (gV_1 (sx (sg_err vs n) (sp_fig g (sg_row vs n)))) 5 280 := fun hh => by
    have hlen := sg_row_len vs n a.ok
    obtain ⟨r, h', row', q1, q2, q3⟩ := g_ofRow (S := S) (f := sg_err vs n) hc (row := sg_row vs n) (by omega) (okR.sg n a.ok) g hh
    rw [gc_20, a_gather a hc.1, gk_ca_some]
    refine ⟨r, h', S, sg_err vs n, row', gV_1 (sp_fig g (sg_row vs n)), q1, q2.val, q3.le (by decide) (by decide), gc_fr.refl S, sg_err_le vs n a.ok, ?_⟩
    unfold sx
    split <;> rfl
  have rc : g = 6 ∨ g = 7 ∨ g = 8 → cR b h S (f_Su_counted (gI g) (some 20) (gv_ov h (gA S 0 []))) (gV_1 (gc_n (FP.i2d (gI (sg_cnt g vs n))))) 5 280 := fun hh => (cR.of (g_counted a hc g hh _ rfl) (Nat.zero_le _) rfl).le (by decide) (by decide)
  have rr : g = 10 ∨ g = 11 → cR b h S (f_Su_atRank (gI g) (some 20) (gv_ov h (gA S 0 []))) (gV_1 (sp_rk g vs)) 5 280 := fun hh => (g_atRank a hc g hh (hn2 (by omega))).le (by decide) (by decide)
  have rt : g = 16 ∨ g = 17 ∨ g = 18 → cR b h S (f_Su_ofThoseMeeting (gI g) (some 20) (gv_ov h (gA S 0 []))) (gV_1 (sp_those g vs n)) 5 280 := fun hh => g_those a hc g hh (hn2 (by omega))
  have hgs : g = 0 ∨ g = 1 ∨ g = 2 ∨ g = 3 ∨ g = 4 ∨ g = 5 ∨ g = 6 ∨ g = 7 ∨ g = 8 ∨ g = 9 ∨ g = 10 ∨ g = 11 ∨ g = 12 ∨ g = 13 ∨ g = 14 ∨ g = 15 ∨ g = 16 ∨ g = 17 ∨ g = 18 := by omega
  rcases hgs with rfl | rfl | rfl | rfl | rfl | rfl | rfl | rfl | rfl | rfl | rfl | rfl | rfl | rfl | rfl | rfl | rfl | rfl | rfl
  · rw [if_neg (by decide), if_neg (by decide), if_neg (by decide), if_neg (by decide), if_neg (by decide), if_neg (by decide), if_neg (by decide), if_neg (by decide), if_neg (by decide), if_neg (by decide), if_neg (by decide), if_neg (by decide), if_neg (by decide)]
    exact r0 (by decide)
  · rw [if_neg (by decide), if_neg (by decide), if_neg (by decide), if_neg (by decide), if_neg (by decide), if_neg (by decide), if_neg (by decide), if_neg (by decide), if_neg (by decide), if_neg (by decide), if_neg (by decide), if_neg (by decide), if_neg (by decide)]
    exact r0 (by decide)
  · rw [if_neg (by decide), if_neg (by decide), if_neg (by decide), if_neg (by decide), if_neg (by decide), if_neg (by decide), if_neg (by decide), if_neg (by decide), if_neg (by decide), if_neg (by decide), if_neg (by decide), if_neg (by decide), if_neg (by decide)]
    exact r0 (by decide)
  · rw [if_neg (by decide), if_neg (by decide), if_neg (by decide), if_neg (by decide), if_neg (by decide), if_neg (by decide), if_neg (by decide), if_neg (by decide), if_neg (by decide), if_neg (by decide), if_neg (by decide), if_neg (by decide), if_neg (by decide)]
    exact r0 (by decide)
  · rw [if_neg (by decide), if_neg (by decide), if_neg (by decide), if_neg (by decide), if_neg (by decide), if_neg (by decide), if_neg (by decide), if_neg (by decide), if_neg (by decide), if_neg (by decide), if_neg (by decide), if_neg (by decide), if_neg (by decide)]
    exact r0 (by decide)
  · rw [if_neg (by decide), if_neg (by decide), if_neg (by decide), if_neg (by decide), if_neg (by decide), if_neg (by decide), if_neg (by decide), if_neg (by decide), if_neg (by decide), if_neg (by decide), if_neg (by decide), if_neg (by decide), if_neg (by decide)]
    exact r0 (by decide)
  · rw [if_pos (by decide)]
    exact rc (by decide)
  · rw [if_neg (by decide), if_pos (by decide)]
    exact rc (by decide)
  · rw [if_neg (by decide), if_neg (by decide), if_pos (by decide)]
    exact rc (by decide)
  · rw [if_neg (by decide), if_neg (by decide), if_neg (by decide), if_pos (by decide)]
    exact r0 (by decide)
  · rw [if_neg (by decide), if_neg (by decide), if_neg (by decide), if_neg (by decide), if_pos (by decide)]
    exact rr (by decide)
  · rw [if_neg (by decide), if_neg (by decide), if_neg (by decide), if_neg (by decide), if_neg (by decide), if_pos (by decide)]
    exact rr (by decide)
  · rw [if_neg (by decide), if_neg (by decide), if_neg (by decide), if_neg (by decide), if_neg (by decide), if_neg (by decide), if_pos (by decide)]
    exact (g_rank a hc (hn2 (by decide))).le (by decide) (by decide)
  · rw [if_neg (by decide), if_neg (by decide), if_neg (by decide), if_neg (by decide), if_neg (by decide), if_neg (by decide), if_neg (by decide), if_pos (by decide)]
    exact r0 (by decide)
  · rw [if_neg (by decide), if_neg (by decide), if_neg (by decide), if_neg (by decide), if_neg (by decide), if_neg (by decide), if_neg (by decide), if_neg (by decide), if_pos (by decide)]
    exact r0 (by decide)
  · rw [if_neg (by decide), if_neg (by decide), if_neg (by decide), if_neg (by decide), if_neg (by decide), if_neg (by decide), if_neg (by decide), if_neg (by decide), if_neg (by decide), if_pos (by decide)]
    exact (g_prod a hc hn1).le (by decide) (by decide)
  · rw [if_neg (by decide), if_neg (by decide), if_neg (by decide), if_neg (by decide), if_neg (by decide), if_neg (by decide), if_neg (by decide), if_neg (by decide), if_neg (by decide), if_neg (by decide), if_pos (by decide)]
    exact rt (by decide)
  · rw [if_neg (by decide), if_neg (by decide), if_neg (by decide), if_neg (by decide), if_neg (by decide), if_neg (by decide), if_neg (by decide), if_neg (by decide), if_neg (by decide), if_neg (by decide), if_neg (by decide), if_pos (by decide)]
    exact rt (by decide)
  · rw [if_neg (by decide), if_neg (by decide), if_neg (by decide), if_neg (by decide), if_neg (by decide), if_neg (by decide), if_neg (by decide), if_neg (by decide), if_neg (by decide), if_neg (by decide), if_neg (by decide), if_neg (by decide), if_pos (by decide)]
    exact rt (by decide)
end SUM
