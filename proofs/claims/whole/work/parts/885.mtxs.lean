/-! THE PURE PART: the reference's texts (56 to 73), all -/
theorem jl_sj (vs : Nat → gp_V) : ∀ k, ((jl (fun k => (sT vs k).2) k).length ≤ 255 → sj vs k = jl (fun k => (sT vs k).2) k) ∧ (255 < (jl (fun k => (sT vs k).2) k).length → 255 < (sj vs k).length)
  | 0 => ⟨fun _ => rfl, fun y => absurd y (by show ¬ 255 < 0; decide)⟩
  | k + 1 => by
    obtain ⟨i1, i2⟩ := jl_sj vs k
    have ej : jl (fun k => (sT vs k).2) (k + 1) = jl (fun k => (sT vs k).2) k ++ (sT vs k).2 := rfl
    have es : sj vs (k + 1) = if (sj vs k).length ≤ 255 then sj vs k ++ (sT vs k).2 else sj vs k := rfl
    rw [ej, es, List.length_append]
    constructor
    · intro y
      have e := i1 (by omega)
      rw [e, if_pos (by omega)]
    · intro y
      by_cases z : (jl (fun k => (sT vs k).2) k).length ≤ 255
      · rw [i1 z, if_pos z, List.length_append]
        exact y
      · have := i2 (by omega)
        rw [if_neg (by omega)]
        exact this
theorem wo_64 (vs : Nat → gp_V) (n : Nat) : sp_wo 64 vs n = sx (st_err vs n) (gc_txt (sj vs n)) := by
  unfold sp_wo
  rw [if_neg (by decide), if_neg (by decide), if_neg (by decide), if_neg (by decide), if_neg (by decide), if_pos (by decide)]
theorem wo_68 (f : Nat) (hf : f = 68 ∨ f = 69) (vs : Nat → gp_V) (n : Nat) : sp_wo f vs n = sx (bl (bl (sT vs 0).1 (sT vs 1).1) (oW vs n 2)) (sp_found f (sT vs 0).2 (sT vs 1).2 (oX vs n 2)) := by
  unfold sp_wo
  rw [if_neg (by omega), if_neg (by omega), if_neg (by omega), if_neg (by omega), if_neg (by omega), if_neg (by omega), if_neg (by omega), if_neg (by omega), if_neg (by omega), if_pos hf]
theorem wo_70 (vs : Nat → gp_V) (n : Nat) : sp_wo 70 vs n = sx (bl (sT vs 0).1 (sT vs 1).1) (gc_b (decide ((sT vs 0).2 = (sT vs 1).2))) := by
  unfold sp_wo
  rw [if_neg (by decide), if_neg (by decide), if_neg (by decide), if_neg (by decide), if_neg (by decide), if_neg (by decide), if_neg (by decide), if_neg (by decide), if_neg (by decide), if_neg (by decide), if_pos (by decide)]
theorem wo_71 (vs : Nat → gp_V) (n : Nat) : sp_wo 71 vs n = sx (sW vs 0) (if sw_x vs 0 < 32 ∨ 126 < sw_x vs 0 then gc_e 3 else gc_txt [(sw_x vs 0).toNat]) := by
  unfold sp_wo
  rw [if_neg (by decide), if_neg (by decide), if_neg (by decide), if_neg (by decide), if_neg (by decide), if_neg (by decide), if_neg (by decide), if_neg (by decide), if_neg (by decide), if_neg (by decide), if_neg (by decide), if_pos (by decide)]
theorem wo_72 (vs : Nat → gp_V) (n : Nat) : sp_wo 72 vs n = sx (sT vs 0).1 (if (sT vs 0).2 = [] then gc_e 3 else gc_n (FP.i2d (gI ((sT vs 0).2.getD 0 0)))) := by
  unfold sp_wo
  rw [if_neg (by decide), if_neg (by decide), if_neg (by decide), if_neg (by decide), if_neg (by decide), if_neg (by decide), if_neg (by decide), if_neg (by decide), if_neg (by decide), if_neg (by decide), if_neg (by decide), if_neg (by decide), if_pos (by decide)]
theorem wo_73 (vs : Nat → gp_V) (n : Nat) : sp_wo 73 vs n = sx (sT vs 0).1 (if nl_is (sT vs 0).2 = true then gc_n (nl_val (sT vs 0).2) else gc_e 3) := by
  unfold sp_wo
  rw [if_neg (by decide), if_neg (by decide), if_neg (by decide), if_neg (by decide), if_neg (by decide), if_neg (by decide), if_neg (by decide), if_neg (by decide), if_neg (by decide), if_neg (by decide), if_neg (by decide), if_neg (by decide), if_neg (by decide)]
section MTS
variable {h : gk_H} {S S0 S1 T : gv_S} {a n f : Nat} {vs : Nat → gp_V} {l L p : List Nat} {w : Nat}
theorem mW.asT (a : mW S w l) (hw : w < 9) : mT S (256 * w) l := ⟨fun k hk => a.2.2.2 k hk, a.2.1, by have := a.1; omega, a.1⟩
/-- FIND and SEARCH: the first place from one on -/
theorem msr_49 (hf : f = 68 ∨ f = 69) (hP : mW S 0 p) (hW : mW S 1 l) : ∀ (r fu q : Nat), q + r = l.length + 1 → r < fu → f_M_search_b49 fu (some 30) (gI f) (gI l.length) (0 : Int32) (gJ ((q + 1 : Nat) : Int)) (gv_ov h S) = f_M_search_b153 (some 30) (match (if f = 69 then lk_first (lk_tk p) l r q else sp_fnd p l r q) with | none => gI 0 | some z => gI (z + 1)) (gv_ov h S) := by
  have hl := hW.1
  have hpl := hP.1
  have c1 : (1 : Int64) = gJ 1 := rfl
  have el : Int32.toInt64 (gI l.length + (1 : Int32)) = gJ ((l.length + 1 : Nat) : Int) := by
    rw [show gI l.length + (1 : Int32) = gI (l.length + 1) from gI_add _ 1]
    exact i2l_255 (by omega)
  intro r
  induction r with
  | zero =>
    intro fu q hq hf'
    obtain ⟨fu, rfl⟩ : ∃ g, fu = g + 1 := ⟨fu - 1, by omega⟩
    rw [f_M_search_b49]
    dsimp only
    rw [el, c1, jte_lt _ _ _ _ (by omega) (by omega) (by decide) (by decide), if_neg (by omega), jte_gt _ _ _ _ (by omega) (by omega) (by omega) (by omega), if_pos (by omega)]
    have e1 : lk_first (lk_tk p) l 0 q = none := rfl
    have e2 : sp_fnd p l 0 q = none := rfl
    rw [e1, e2, ite_self]
    rfl
  | succ r ih =>
    intro fu q hq hf'
    obtain ⟨fu, rfl⟩ : ∃ g, fu = g + 1 := ⟨fu - 1, by omega⟩
    have hql : q ≤ l.length := by omega
    have hd : (l.drop q).length = l.length - q := List.length_drop
    have e1 : lk_first (lk_tk p) l (r + 1) q = if lk true (lk_tk p) (l.drop q) = true then some q else lk_first (lk_tk p) l r (q + 1) := rfl
    have e2 : sp_fnd p l (r + 1) q = if q + p.length ≤ l.length ∧ p.isPrefixOf (l.drop q) = true then some q else sp_fnd p l r (q + 1) := rfl
    have b127 : ∀ is : Bool, (is = true ↔ (if f = 69 then lk true (lk_tk p) (l.drop q) = true else (q + p.length ≤ l.length ∧ p.isPrefixOf (l.drop q) = true))) → f_M_search_b127 (f_M_search_b49 fu) (some 30) (gI f) (gI l.length) (0 : Int32) (gJ ((q + 1 : Nat) : Int)) (gB is) (gv_ov h S) = f_M_search_b153 (some 30) (match (if f = 69 then lk_first (lk_tk p) l (r + 1) q else sp_fnd p l (r + 1) q) with | none => gI 0 | some z => gI (z + 1)) (gv_ov h S) := by
      intro is his
      unfold f_M_search_b127 f_M_search_b142
      rw [ite_B, gJ_toI (q + 1) (by omega), gk_let_eq, gk_let_eq, show gJ ((q + 1 : Nat) : Int) + (1 : Int64) = gJ ((q + 1 + 1 : Nat) : Int) from gJ_add _ 1, e1, e2]
      cases is
      · have hno : ¬ (if f = 69 then lk true (lk_tk p) (l.drop q) = true else (q + p.length ≤ l.length ∧ p.isPrefixOf (l.drop q) = true)) := fun y => by
          have := his.mpr y
          cases this
        have := ih fu (q + 1) (by omega) (by omega)
        rw [if_neg (show ¬ (false = true) by decide), this]
        by_cases y : f = 69
        · rw [if_pos y] at hno
          rw [if_pos y, if_pos y, if_neg hno]
        · rw [if_neg y] at hno
          rw [if_neg y, if_neg y, if_neg hno]
      · have hyes := his.mp rfl
        obtain ⟨fu, rfl⟩ : ∃ g, fu = g + 1 := ⟨fu - 1, by omega⟩
        have em : (match (if f = 69 then (if lk true (lk_tk p) (l.drop q) = true then some q else lk_first (lk_tk p) l r (q + 1)) else (if q + p.length ≤ l.length ∧ p.isPrefixOf (l.drop q) = true then some q else sp_fnd p l r (q + 1))) with | none => gI 0 | some z => gI (z + 1)) = gI (q + 1) := by
          by_cases y : f = 69
          · rw [if_pos y] at hyes
            rw [if_pos y, if_pos hyes]
          · rw [if_neg y] at hyes
            rw [if_neg y, if_pos hyes]
        rw [if_pos (show true = true from rfl), em, f_M_search_b49]
        dsimp only
        rw [ine0 (q + 1) (by omega), if_neg (show ¬ (q + 1 = 0) by omega), ite_self, ite_self]
    rw [f_M_search_b49]
    dsimp only
    rw [el, c1, jte_lt _ _ _ _ (by omega) (by omega) (by decide) (by decide), if_neg (by omega), jte_gt _ _ _ _ (by omega) (by omega) (by omega) (by omega), if_neg (by omega), if_pos (show (0 : Int32) = 0 from rfl), gJ_toI (q + 1) (by omega), show gI (q + 1) - (1 : Int32) = gI q from gI_sub (q + 1) 1 (by omega), gk_let_eq]
    rcases hf with rfl | rfl
    · have hat := m_isAt (h := h) (w := 1) (o := 0) (by decide) (by decide) hW hP hql
      have hat' : f_M_isAt (some 30) (1 : Int32) (gI q) (0 : Int32) (gv_ov h S) = _ := hat
      rw [if_pos (show gI 68 = (68 : Int32) from rfl), gc_30, hat', gk_ca_some]
      refine b127 _ ?_
      rw [if_neg (show ¬ (68 = 69) by decide)]
      constructor
      · intro y
        have := ((pre_iff _ _).mp y).1
        exact ⟨by omega, y⟩
      · exact fun y => y.2
    · have hsw := ((hW.asT (by decide)).drop q hql).src h
      have hsp := (hP.asT (by decide)).src h
      have hlk := m_like hsw hsp (by omega) hpl true
      rw [hd] at hlk
      have hlk' : f_M_isLike (some 30) (some 41) (gI (256 * 1 + q)) (gI (l.length - q)) (some 41) (0 : Int32) (gI p.length) (1 : Int32) (gv_ov h S) = _ := hlk
      rw [if_neg (show ¬ gI 69 = (68 : Int32) by decide), gr_30_15, gr_30_15, gr_30_14, ga_40z, hP.2.2.1, show (256 : Int32) + gI q = gI (256 * 1 + q) from gI_add 256 q, gI_sub _ _ hql, gc_30, hlk', gk_ca_some]
      refine b127 _ ?_
      rw [if_pos rfl]
theorem mo_search (g : mG S a vs n) (qT : mX mSt S T) (hb : T.1 30 11 = gI (sT vs 0).1) (hW : mW T 0 (sT vs 0).2) (hf : f = 68 ∨ f = 69) (hn2 : 2 ≤ n) (hn3 : n ≤ 3) : mF h S (f_M_search (some 30) (gI f) (gI a) (gI n) (gv_ov h T)) (gV_1 (sp_wo f vs n)) := by
  have h16 := g.1
  obtain ⟨t1, t2, t3⟩ := g.sT (k := 0) (by omega)
  obtain ⟨u1, u2, u3⟩ := g.sT (k := 1) (by omega)
  have gT := g.st qT
  obtain ⟨A, a1, a2, a3, a4⟩ := m_txtT (h := h) gT (k := 1) (w := 1) (by omega) (by decide) hb t1
  have qA : mX mSt S A := qT.trans (a2.le fun _ _ z => mWq_st z)
  have hE1 := bl_le t1 u1
  have w0 := hW.wq a2 (by decide) (by decide) (by decide)
  have a1' : f_M_wantText (some 30) (gI (a + 1)) (1 : Int32) (gv_ov h T) = _ := a1
  have b24 : ∀ (C : gv_S) (i : Int) (e : Nat), mX mSt S C → C.1 30 11 = gI e → e ≤ 8 → -9007199254740992 < i → i < 9007199254740992 → (e = 0 → mW C 0 (sT vs 0).2 ∧ mW C 1 (sT vs 1).2 ∧ i = oX vs n 2) → mF h S (f_M_search_b24 (some 30) (gI f) (gJ i) (gv_ov h C)) (gV_1 (sx e (sp_found f (sT vs 0).2 (sT vs 1).2 (oX vs n 2)))) := by
    intro C i e qC hC he i1 i2 inv
    unfold f_M_search_b24
    rw [gg_30_11, hC, itl0 e he]
    by_cases z : e = 0
    · obtain ⟨c0, c1, c2⟩ := inv z
      rw [z] at hC
      have hl := c1.1
      have b153 : ∀ m : Nat, m ≤ 256 → mF h S (f_M_search_b153 (some 30) (gI m) (gv_ov h C)) (gV_1 (if m = 0 then gc_e 3 else gc_n (FP.i2d (gI m)))) := fun m hm => by
        unfold f_M_search_b153 f_M_search_b163
        rw [ine0 m (by omega)]
        by_cases y : m = 0
        · rw [if_pos y, if_pos y, gc_30, gI_lit 3, m_fail 0 3 hC (by decide), gk_ca_some, bl_n, gc_30, gu_idU]
          exact mF.ansE (fd_i2df _).n (qC.trans (mX.I _ (mB_st ⟨rfl, rfl⟩))) (gu11 3) (by decide) (by decide)
        · rw [if_neg y, if_neg y, gc_30, gu_idU]
          exact mF.ansN (fd_i2df _) qC hC
      rw [if_pos z, show ∀ c : gp_C, sx e c = c from fun c => if_pos z, gr_30_14, ga_40o, c1.2.2.1, ← c2]
      unfold sp_found
      by_cases zi : i < 1 ∨ ((sT vs 1).2.length : Int) + 1 < i
      · have e49 : f_M_search_b49 (999999 + 1) (some 30) (gI f) (gI (sT vs 1).2.length) (0 : Int32) (gJ i) (gv_ov h C) = f_M_search_b153 (some 30) (gI 0) (gv_ov h C) := by
          rw [f_M_search_b49]
          dsimp only
          rw [show gI (sT vs 1).2.length + (1 : Int32) = gI ((sT vs 1).2.length + 1) from gI_add _ 1, i2l_255 (by omega), show (1 : Int64) = gJ 1 from rfl, jte_lt _ _ _ _ (by omega) (by omega) (by decide) (by decide), jte_gt _ _ _ _ (by omega) (by omega) (by omega) (by omega)]
          by_cases y : i < 1
          · rw [if_pos y]
            rfl
          · rw [if_neg y, if_pos (by omega)]
            rfl
        have e49' : f_M_search_b49 gk_F (some 30) (gI f) (gI (sT vs 1).2.length) (0 : Int32) (gJ i) (gv_ov h C) = _ := e49
        have := b153 0 (by decide)
        rw [if_pos rfl] at this
        rw [if_pos zi, e49']
        exact this
      · obtain ⟨q, hq⟩ : ∃ q : Nat, i = ((q + 1 : Nat) : Int) := ⟨i.toNat - 1, by omega⟩
        have e49 := msr_49 (h := h) hf c0 c1 ((sT vs 1).2.length + 1 - q) gk_F q (by omega) (by unfold gk_F; omega)
        rw [if_neg zi, hq, e49, show ((q + 1 : Nat) : Int).toNat - 1 = q by omega]
        have fd : ∀ (o : Option Nat), (∀ z, o = some z → z ≤ 255) → mF h S (f_M_search_b153 (some 30) (match o with | none => gI 0 | some z => gI (z + 1)) (gv_ov h C)) (gV_1 (sp_fd o)) := fun o ho => by
          cases o with
          | none =>
            have := b153 0 (by decide)
            rw [if_pos rfl] at this
            exact this
          | some z =>
            have := b153 (z + 1) (by have := ho z rfl; omega)
            rw [if_neg (by omega)] at this
            exact this
        have lb : ∀ (r q' : Nat), q' + r = (sT vs 1).2.length + 1 → (∀ z, lk_first (lk_tk (sT vs 0).2) (sT vs 1).2 r q' = some z → z ≤ 255) := by
          intro r
          induction r with
          | zero => intro q' _ z hz; cases hz
          | succ r ih =>
            intro q' hq' z hz
            have hz' : (if lkF true (lk_tk (sT vs 0).2) (sT vs 1).2 q' = true then some q' else lk_first (lk_tk (sT vs 0).2) (sT vs 1).2 r (q' + 1)) = some z := hz
            by_cases y : lkF true (lk_tk (sT vs 0).2) (sT vs 1).2 q' = true
            · rw [if_pos y] at hz'
              have := Option.some.inj hz'
              omega
            · rw [if_neg y] at hz'
              exact ih (q' + 1) (by omega) z hz'
        by_cases y69 : f = 69
        · rw [if_pos y69, if_pos y69]
          exact fd _ (lb _ _ (by omega))
        · rw [if_neg y69, if_neg y69]
          exact fd _ fun z hz => by
            have := sp_fnd_b _ _ _ _ hz
            omega
    · rw [if_neg z, show ∀ c : gp_C, sx e c = gc_e e from fun c => if_neg z]
      exact mF.err qC hC z he
  unfold f_M_search
  rw [show gI a + (1 : Int32) = gI (a + 1) from gI_add _ 1, gc_30, a1', gk_ca_some, gI_lit 3, ite_eq _ _ _ _ (by omega) (by decide), wo_68 f hf]
  by_cases y3 : n = 3
  · obtain ⟨x1, x2, x3⟩ := g.sW (k := 2) (by omega)
    obtain ⟨C, c1, c2, c3⟩ := m_whoW (h := h) (g.st qA) (k := 2) (by omega) a3 hE1
    have qC : mX mSt S C := qA.trans (c2.le fun _ _ z => mQ_st z)
    have eo : oW vs n 2 = sW vs 2 := if_pos (by omega)
    have eX : oX vs n 2 = sw_x vs 2 := if_pos (by omega)
    have := b24 C (if bl (sT vs 0).1 (sT vs 1).1 = 0 then sw_x vs 2 else 0) _ qC c3 (bl_le hE1 x1) (by split <;> omega) (by split <;> omega) (fun z => by
      have z1 := (bl_z.mp z).1
      have z0 := (bl_z.mp z1).1
      rw [if_pos z0] at a4
      exact ⟨w0.q c2, a4.q c2, by rw [if_pos z1, eX]⟩)
    rw [if_pos y3, show gI a + (2 : Int32) = gI (a + 2) from gI_add _ 2, gc_30, c1, gk_ca_some, eo]
    exact this
  · have eo : oW vs n 2 = 0 := if_neg (by omega)
    have eX : oX vs n 2 = 1 := if_neg (by omega)
    have := b24 A 1 _ qA a3 hE1 (by decide) (by decide) (fun z => by
      have z0 := (bl_z.mp z).1
      rw [if_pos z0] at a4
      exact ⟨w0, a4, eX.symm⟩)
    rw [if_neg y3, eo, bl_0]
    exact this
theorem mo_lookAt (g : mG S a vs n) (qT : mX mSt S T) (hb : T.1 30 11 = gI (sT vs 0).1) (hW : mW T 0 (sT vs 0).2) (hf : f = 70 ∨ f = 72 ∨ f = 73) (hn1 : 1 ≤ n) (hn2 : f = 70 → 2 ≤ n) : mF h S (f_M_lookAt (some 30) (gI f) (gI a) (gv_ov h T)) (gV_1 (sp_wo f vs n)) := by
  have h16 := g.1
  obtain ⟨t1, t2, t3⟩ := g.sT (k := 0) (by omega)
  have hl := hW.1
  have o1 : (1 : Int32) = gB true := rfl
  have o0 : (0 : Int32) = gB false := rfl
  have b126 : ∀ h : gk_H, f_M_lookAt_b126 h = some ((), h) := fun _ => rfl
  have b91 : ∀ h : gk_H, f_M_lookAt_b91 h = some ((), h) := fun _ => rfl
  unfold f_M_lookAt
  simp only [b126, b91]
  rcases hf with rfl | rfl | rfl
  · have hn := hn2 rfl
    obtain ⟨u1, u2, u3⟩ := g.sT (k := 1) (by omega)
    obtain ⟨A, a1, a2, a3, a4⟩ := m_txtT (h := h) (g.st qT) (k := 1) (w := 1) (by omega) (by decide) hb t1
    have qA : mX mSt S A := qT.trans (a2.le fun _ _ z => mWq_st z)
    have hE1 := bl_le t1 u1
    have w0 := hW.wq a2 (by decide) (by decide) (by decide)
    have a1' : f_M_wantText (some 30) (gI (a + 1)) (1 : Int32) (gv_ov h T) = _ := a1
    have b45 : ∀ t : Bool, mF h S (f_M_lookAt_b45 (some 30) (gB t) (gv_ov h A)) (gV_1 (sx (bl (sT vs 0).1 (sT vs 1).1) (gc_b t))) := fun t => by
      unfold f_M_lookAt_b45
      rw [gc_30, gu_idU]
      exact mF.ansT t qA a3 hE1
    have fin : ∀ t : Bool, t = decide ((sT vs 0).2 = (if (sT vs 0).1 = 0 then (sT vs 1).2 else [])) → mF h S (f_M_lookAt_b45 (some 30) (gB t) (gv_ov h A)) (gV_1 (sx (bl (sT vs 0).1 (sT vs 1).1) (gc_b (decide ((sT vs 0).2 = (sT vs 1).2))))) := fun t ht => by
      have := b45 t
      rw [ht] at this ⊢
      have e : sx (bl (sT vs 0).1 (sT vs 1).1) (gc_b (decide ((sT vs 0).2 = (if (sT vs 0).1 = 0 then (sT vs 1).2 else [])))) = sx (bl (sT vs 0).1 (sT vs 1).1) (gc_b (decide ((sT vs 0).2 = (sT vs 1).2))) := sx_c fun z => by rw [if_pos (bl_z.mp z).1]
      rw [e] at this
      exact this
    have hl1 := a4.1
    unfold f_M_lookAt_b44
    rw [if_pos (show gI 70 = (70 : Int32) from rfl), show gI a + (1 : Int32) = gI (a + 1) from gI_add _ 1, gc_30, a1', gk_ca_some, gr_30_14, ga_40z, w0.2.2.1, gr_30_14, ga_40o, a4.2.2.1, ite_eq _ _ _ _ (by omega) (by omega), wo_70]
    revert fin a4 hl1
    generalize (if (sT vs 0).1 = 0 then (sT vs 1).2 else []) = l1
    intro a4 fin hl1
    by_cases y : (sT vs 0).2.length = l1.length
    · have hat := m_isAt (h := h) (w := 0) (o := 1) (by decide) (by decide) w0 a4 (t := 0) (Nat.zero_le _)
      have hat' : f_M_isAt (some 30) (0 : Int32) (0 : Int32) (1 : Int32) (gv_ov h A) = _ := hat
      rw [if_pos y, gc_30, hat', gk_ca_some, ite_B, List.drop_zero, o1, o0]
      by_cases z : l1.isPrefixOf (sT vs 0).2 = true
      · rw [if_pos z]
        refine fin true (decide_eq_true ?_).symm
        obtain ⟨r, er⟩ := List.isPrefixOf_iff_prefix.mp z
        have hr : r.length = 0 := by
          have := congrArg List.length er
          rw [List.length_append] at this
          omega
        rw [← er, List.length_eq_zero_iff.mp hr, List.append_nil]
      · rw [if_neg z]
        refine fin false (decide_eq_false fun q => z ?_).symm
        rw [q]
        exact List.isPrefixOf_iff_prefix.mpr (List.prefix_refl _)
    · rw [if_neg y, o0]
      exact fin false (decide_eq_false fun q => y (by rw [q])).symm
  · rw [if_neg (show ¬ gI 72 = (70 : Int32) by decide), gg_30_11, hb, itl0 _ t1, wo_72]
    by_cases z : (sT vs 0).1 = 0
    · rw [z] at hb
      rw [if_pos z, show ∀ c : gp_C, sx (sT vs 0).1 c = c from fun c => if_pos z, if_pos (show gI 72 = (72 : Int32) from rfl), gr_30_14, ga_40z, hW.2.2.1, ine0 _ (by omega)]
      by_cases y : (sT vs 0).2.length = 0
      · rw [if_pos y, if_pos (List.length_eq_zero_iff.mp y), gc_30, gu_idU, gI_lit 3, m_fail 0 3 hb (by decide), bl_n]
        exact mF.err (qT.trans (mX.I _ (mB_st ⟨rfl, rfl⟩))) (gu11 3) (by decide) (by decide)
      · have h41 := hW.2.2.2 0 (by omega)
        have e41 : ∀ {β : Type} (K : Int32 → Option β), ((gk_ald (gv_ov h T) (some 41) 3 (0 : Int32)).bind gk_asI).bind K = K (T.1 41 0) := fun K => ga_41 (n := 0) (by decide) K
        rw [if_neg y, if_neg (fun q => y (by rw [q]; rfl)), gr_30_15, e41, show T.1 41 0 = gI ((sT vs 0).2.getD 0 0) from h41, gc_30, gu_idU]
        exact mF.ansN (fd_i2df _) qT hb
    · rw [if_neg z, show ∀ c : gp_C, sx (sT vs 0).1 c = gc_e (sT vs 0).1 from fun c => if_neg z]
      exact mF.err qT hb z t1
  · rw [if_neg (show ¬ gI 73 = (70 : Int32) by decide), gg_30_11, hb, itl0 _ t1, wo_73]
    by_cases z : (sT vs 0).1 = 0
    · rw [z] at hb
      have hN := m_isNum ((hW.asT (by decide)).src h)
      have hN' : f_M_isNumeral (some 30) (some 41) (0 : Int32) (gI (sT vs 0).2.length) (gv_ov h T) = _ := hN
      rw [if_pos z, show ∀ c : gp_C, sx (sT vs 0).1 c = c from fun c => if_pos z, if_neg (show ¬ gI 73 = (72 : Int32) by decide), gr_30_15, gr_30_14, ga_40z, hW.2.2.1, gc_30, hN', gk_ca_some, ite_B]
      by_cases y : nl_is (sT vs 0).2 = true
      · have hnf : fd_f (nl_val (sT vs 0).2) := by
          have e : sp_num (gc_t (sT vs 0).2) = (0, nl_val (sT vs 0).2) := by
            unfold sp_num
            rw [if_neg (show ¬ (gc_t (sT vs 0).2).1 = 1 by show ¬ (2 : Nat) = 1; decide), if_pos (show (gc_t (sT vs 0).2).1 = 2 from rfl)]
            exact if_pos y
          have := (sp_num_f (gp_okt t2 t3)).1
          rw [e] at this
          exact this
        rw [if_pos y, if_pos y, if_pos y, gg_30_16, show (gv_uD T 30 16 (nl_val (sT vs 0).2)).2.1 30 16 = nl_val (sT vs 0).2 from gu_D2 _ _ _ _, gc_30, gu_idU]
        exact mF.ansN hnf (qT.trans (mX.D _ (mRd_st ⟨rfl, rfl⟩))) hb
      · rw [if_neg y, if_neg y, if_neg y, gc_30, gu_idU, gI_lit 3, m_fail 0 3 hb (by decide), bl_n]
        exact mF.err (qT.trans (mX.I _ (mB_st ⟨rfl, rfl⟩))) (gu11 3) (by decide) (by decide)
    · rw [if_neg z, show ∀ c : gp_C, sx (sT vs 0).1 c = gc_e (sT vs 0).1 from fun c => if_neg z]
      exact mF.err qT hb z t1
theorem mo_concat (g : mG S a vs n) (hb : S.1 30 11 = gI 0) (hn8 : n ≤ 8) : mF h S (f_M_texts_b9 gk_F (some 30) (gI a) (gI n) (0 : Int32) (gv_ov h S)) (gV_1 (sp_wo 64 vs n)) := by
  have h16 := g.1
  have loop : ∀ (r k fu : Nat) (T : gv_S), k + r = n → r < fu → mX mSt S T → T.1 30 11 = gI (st_err vs k) → st_err vs k ≤ 8 → (∀ j, j < k → mW T j (if st_err vs j = 0 then (sT vs j).2 else [])) → mF h S (f_M_texts_b9 fu (some 30) (gI a) (gI n) (gI k) (gv_ov h T)) (gV_1 (sp_wo 64 vs n)) := by
    intro r
    induction r with
    | zero =>
      intro k fu T hk hf q hT he hW
      obtain ⟨fu, rfl⟩ : ∃ g, fu = g + 1 := ⟨fu - 1, by omega⟩
      have ek : k = n := by omega
      subst ek
      have hO : ∀ j, j < k → okT (if st_err vs j = 0 then (sT vs j).2 else []) := fun j hj => by
        split
        · exact (g.sT (k := j) hj).2.2
        · exact okT.nil
      obtain ⟨U, e1, e2⟩ := m_join (h := h) (n := k) hn8 hW hO hT he
      rw [f_M_texts_b9]
      dsimp only
      rw [ite_le _ _ _ _ (by omega) (by omega), if_pos (Nat.le_refl _), gc_30, gu_idU, e1]
      have hE : bl (st_err vs k) (if 255 < (jl (fun j => if st_err vs j = 0 then (sT vs j).2 else []) k).length then 3 else 0) ≤ 8 := bl_le he (by split <;> decide)
      refine ⟨U, _, _, rfl, ⟨e2.1, e2.2.1, q.trans e2.2.2⟩, hE, ?_⟩
      rw [sxV_gc, wo_64]
      congr 1
      by_cases z : st_err vs k = 0
      · have zall : ∀ j, j ≤ k → st_err vs j = 0 := by
          intro j hj
          have : ∀ m, m ≤ k → st_err vs (k - m) = 0 := by
            intro m
            induction m with
            | zero => exact fun _ => z
            | succ m ih =>
              intro hm
              have h1 := ih (by omega)
              rw [show k - m = (k - (m + 1)) + 1 by omega] at h1
              exact (bl_z.mp h1).1
          have h2 := this (k - j) (by omega)
          rw [show k - (k - j) = j by omega] at h2
          exact h2
        have ejl : ∀ j, j ≤ k → jl (fun j => if st_err vs j = 0 then (sT vs j).2 else []) j = jl (fun j => (sT vs j).2) j := by
          intro j
          induction j with
          | zero => exact fun _ => rfl
          | succ j ih =>
            intro hj
            show jl _ j ++ (if st_err vs j = 0 then (sT vs j).2 else []) = jl _ j ++ (sT vs j).2
            rw [ih (by omega), if_pos (zall j (by omega))]
        obtain ⟨i1, i2⟩ := jl_sj vs k
        rw [ejl k (Nat.le_refl _), z, bl_n, show ∀ c : gp_C, sx 0 c = c from fun c => if_pos rfl]
        unfold gc_txt
        by_cases y : (jl (fun j => (sT vs j).2) k).length ≤ 255
        · rw [if_neg (show ¬ 255 < _ by omega), i1 y, if_pos y]
          rfl
        · have := i2 (by omega)
          rw [if_pos (show 255 < _ by omega), if_neg (show ¬ (sj vs k).length ≤ 255 by omega)]
          rfl
      · rw [bl_p z]
        unfold sx
        rw [if_neg z, if_neg z]
    | succ r ih =>
      intro k fu T hk hf q hT he hW
      obtain ⟨fu, rfl⟩ : ∃ g, fu = g + 1 := ⟨fu - 1, by omega⟩
      obtain ⟨t1, t2, t3⟩ := g.sT (k := k) (by omega)
      obtain ⟨U, e1, e2, e3, e4⟩ := m_txtT (h := h) (g.st q) (k := k) (w := k) (by omega) (by omega) hT he
      rw [f_M_texts_b9]
      dsimp only
      rw [ite_le _ _ _ _ (by omega) (by omega), if_neg (by omega), gI_add, gc_30, e1, gk_ca_some, gk_let_eq, show gI k + (1 : Int32) = gI (k + 1) from gI_add _ 1]
      refine ih (k + 1) fu U (by omega) (by omega) (q.trans (e2.le fun _ _ z => mWq_st z)) e3 (bl_le he t1) fun j hj => ?_
      by_cases y : j = k
      · rw [y]
        exact e4
      · exact (hW j (by omega)).wq e2 (by omega) (by omega) (by omega)
  exact loop n 0 gk_F S (Nat.zero_add _) (by unfold gk_F; omega) (mX.refl _ _) hb (Nat.zero_le _) fun j hj => absurd hj (Nat.not_lt_zero j)
theorem mo_char (g : mG S a vs n) (hb : S.1 30 11 = gI 0) (hn1 : 1 ≤ n) : mF h S (f_M_texts (some 30) (gI 71) (gI a) (gI n) (gv_ov h S)) (gV_1 (sp_wo 71 vs n)) := by
  have h16 := g.1
  obtain ⟨w1, w2, w3⟩ := g.sW (k := 0) (by omega)
  obtain ⟨T, e1, e2, e3⟩ := m_whoW (h := h) g (k := 0) (by omega) hb (by decide)
  rw [bl_n] at e3
  rw [if_pos rfl, Nat.add_zero] at e1
  have qX : mX mSt S T := e2.le fun _ _ w => mQ_st w
  have b102 : ∀ h : gk_H, f_M_texts_b102 h = some ((), h) := fun _ => rfl
  have b80e : ∀ (U : gv_S) (e : Nat), mX mSt S U → U.1 30 11 = gI e → e ≠ 0 → e ≤ 8 → mF h S (f_M_texts_b80 (some 30) (gJ (sw_x vs 0)) (gv_ov h U)) (gV_1 (gc_e e)) := fun U e q hU h0 h8 => by
    obtain ⟨V, d1, d2, d3⟩ := m_setV (h := h) (S := U) 16 (by decide) (gp_okt (l := []) (by decide) okT.nil) rfl 0 fd_0_n (by rw [fd_c0]; exact md_0)
    have d1' : f_M_setSingle (some 30) (16 : Int32) (2 : Int32) (0x0000000000000000) (gv_ov h U) = _ := d1
    have hV : V.1 30 11 = gI e := by
      rw [d2.i (fun w => by unfold mSet at w; omega)]
      exact hU
    unfold f_M_texts_b80
    rw [gc_30, d1', gk_ca_some, gg_30_11, hV, ite0 e h8, if_neg h0, b102]
    exact mF.err (q.trans (d2.le fun _ _ w => mSet_st w)) hV h0 h8
  unfold f_M_texts
  rw [if_neg (show ¬ gI 71 = (64 : Int32) by decide), if_pos (show gI 71 = (71 : Int32) from rfl), gc_30, e1, gk_ca_some, gg_30_11, e3, ite0 _ w1, wo_71]
  by_cases z : sW vs 0 = 0
  · rw [z] at e3
    have b75 : mF h S (f_M_texts_b75 (some 30) (gJ (sw_x vs 0)) (gv_ov h T)) (gV_1 (gc_e 3)) := by
      unfold f_M_texts_b75
      rw [gc_30, gI_lit 3, m_fail 0 3 e3 (by decide), gk_ca_some, bl_n]
      exact b80e _ 3 (qX.trans (mX.I _ (mB_st ⟨rfl, rfl⟩))) (gu11 3) (by decide) (by decide)
    rw [if_pos z, show ∀ c : gp_C, sx (sW vs 0) c = c from fun c => if_pos z, show (32 : Int64) = gJ 32 from rfl, show (126 : Int64) = gJ 126 from rfl, jte_lt _ _ _ _ (by omega) (by omega) (by decide) (by decide), jte_le _ _ _ _ (by omega) (by omega) (by decide) (by decide)]
    by_cases c1 : sw_x vs 0 < 32
    · rw [if_pos c1, if_pos (Or.inl c1)]
      exact b75
    · by_cases c2 : sw_x vs 0 ≤ 126
      · obtain ⟨m, hm⟩ : ∃ m : Nat, sw_x vs 0 = (m : Int) := ⟨(sw_x vs 0).toNat, by omega⟩
        obtain ⟨U, s1, s2, s3⟩ := mBd.nil (h := h) e3
        obtain ⟨V, d1, d2, d3⟩ := s3.add (h := h) m (by omega) (by omega) (by decide)
        have hU : U.1 30 11 = gI 0 := by
          rw [s2.i (fun w => by unfold mSet at w; omega)]
          exact e3
        rw [if_neg c1, if_pos c2, if_neg (by omega), hm, show ((m : Int)).toNat = m from rfl]
        unfold f_M_texts_b80
        rw [gc_30, s1, gk_ca_some, gg_30_11, hU, ite0 0 (by decide), if_pos rfl, gJ_toI m (by omega), gc_30, d1, gk_ca_some, b102]
        exact d3.F ((qX.trans (s2.le fun _ _ w => mSet_st w)).trans (d2.le fun _ _ w => mAb_st w))
      · rw [if_neg c1, if_neg c2, if_pos (Or.inr (by omega))]
        exact b75
  · rw [if_neg z, show ∀ c : gp_C, sx (sW vs 0) c = gc_e (sW vs 0) from fun c => if_neg z]
    exact b80e T _ qX e3 z w1
/-- functions 56 to 73 -/
theorem mo_texts (g : mG S a vs n) (hb : S.1 30 11 = gI 0) (h1 : 56 ≤ f) (h2 : f ≤ 73) (hn1 : 1 ≤ n) (hn8 : n ≤ 8) (n57 : f = 57 ∨ f = 58 → n ≤ 2) (n59 : f = 59 → n = 3) (n65 : f = 65 → n = 2) (n66 : f = 66 → 3 ≤ n ∧ n ≤ 4) (n67 : f = 67 → n = 4) (n68 : f = 68 ∨ f = 69 → 2 ≤ n ∧ n ≤ 3) (n70 : f = 70 → 2 ≤ n) : mF h S (f_M_texts (some 30) (gI f) (gI a) (gI n) (gv_ov h S)) (gV_1 (sp_wo f vs n)) := by
  have h16 := g.1
  by_cases z71 : f = 71
  · rw [z71]
    exact mo_char g hb hn1
  · by_cases z64 : f = 64
    · unfold f_M_texts
      rw [if_pos (show gI f = (64 : Int32) from by rw [z64]; rfl), z64]
      exact mo_concat g hb hn8
    · obtain ⟨T, e1, e2, e3, e4⟩ := m_txtT (h := h) g (k := 0) (w := 0) (by omega) (by decide) hb (by decide)
      rw [bl_n] at e3
      rw [if_pos rfl] at e4
      rw [Nat.add_zero] at e1
      have qT : mX mSt S T := e2.le fun _ _ z => mWq_st z
      have e1' : f_M_wantText (some 30) (gI a) (0 : Int32) (gv_ov h S) = _ := e1
      have q : ∀ (m : Nat), m < 1000 → (gI f = gI m) = (f = m) := fun m hm => gI_eq f m (by omega) (by omega)
      have b194 : ∀ h : gk_H, f_M_texts_b194 h = some ((), h) := fun _ => rfl
      unfold f_M_texts f_M_texts_b127 f_M_texts_b164
      simp only [b194]
      rw [if_neg (show ¬ gI f = (64 : Int32) from fun y => z64 ((q 64 (by decide)).mp y)), if_neg (show ¬ gI f = (71 : Int32) from fun y => z71 ((q 71 (by decide)).mp y)), gc_30, e1', gk_ca_some, gI_lit 60, ite_lt _ _ _ _ (by omega) (by decide), gI_lit 65, ite_eq _ _ _ _ (by omega) (by decide), gI_lit 67, ite_eq _ _ _ _ (by omega) (by decide), gI_lit 66, ite_eq _ _ _ _ (by omega) (by decide), gI_lit 68, ite_eq _ _ _ _ (by omega) (by decide), gI_lit 69, ite_eq _ _ _ _ (by omega) (by decide), ite_le _ _ _ _ (by omega) (by decide)]
      simp only [gc_30, gu_idU]
      by_cases y1 : f < 60
      · rw [if_pos y1]
        exact mo_parts g qT e3 e4 (by omega) hn1 n57 n59 n65 n67
      · rw [if_neg y1]
        by_cases y2 : f = 65
        · rw [if_pos y2]
          exact mo_parts g qT e3 e4 (by omega) hn1 n57 n59 n65 n67
        · rw [if_neg y2]
          by_cases y3 : f = 67
          · rw [if_pos y3]
            exact mo_parts g qT e3 e4 (by omega) hn1 n57 n59 n65 n67
          · rw [if_neg y3]
            by_cases y4 : f = 66
            · obtain ⟨m1, m2⟩ := n66 y4
              rw [if_pos y4, y4]
              exact mo_substitute g qT e3 e4 m1 m2
            · rw [if_neg y4]
              by_cases y5 : f = 68
              · obtain ⟨m1, m2⟩ := n68 (Or.inl y5)
                rw [if_pos y5]
                exact mo_search g qT e3 e4 (Or.inl y5) m1 m2
              · rw [if_neg y5]
                by_cases y6 : f = 69
                · obtain ⟨m1, m2⟩ := n68 (Or.inr y6)
                  rw [if_pos y6]
                  exact mo_search g qT e3 e4 (Or.inr y6) m1 m2
                · rw [if_neg y6]
                  by_cases y7 : f ≤ 69
                  · rw [if_pos y7]
                    exact mo_letters g qT e3 e4 hn1 (by omega)
                  · rw [if_neg y7]
                    exact mo_lookAt g qT e3 e4 (by omega) hn1 n70
end MTS
