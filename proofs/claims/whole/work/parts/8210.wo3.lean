/-! THE PURE PART: wording, the rest (class) -/
section WO3
variable {b n : Nat} {h : gk_H} {S : gv_S} {vs : Nat → gp_V} {f : Nat} {row : List UInt64} {j i : Nat} {l t : List Nat}
theorem w_replaced (hc : gp_cs b h) (hi : gp_str b h i l) (hl : l.length ≤ 255) (ok : okT l) {fr : List Nat} (hj : gp_str b h j fr) (hfr : fr.length ≤ 255) (okf : okT fr) (p m : Int) (hp : -9007199254740992 < p ∧ p < 9007199254740992) (hm : -9007199254740992 < m ∧ m < 9007199254740992) : vRc b h S (if lg_cmp (gJ p) (1 : Int64) < 0 then f_Va_ofError (3 : Int32) (gv_ov h S) else if 0 ≤ lg_cmp (gJ m) (0 : Int64) then (gk_nw (gv_ov h S) 1 4 fun x5 h5 => gk_cv h5 x5 1 (f_SB_init x5 h5) fun _ h6 => gk_ca (f_Wo_part (some i) (0 : Int64) (gJ p - (1 : Int64)) h6) fun x6 h7 => gk_cv h7 x5 1 (f_SB_append_String x5 x6 h7) fun x7 h8 => gk_cv h8 x5 1 (f_SB_append_String x5 (some j) h8) fun x8 h9 => gk_cv h9 (some i) 0 (f_St_length (some i) h9) fun x9 h10 => gk_ca (f_Wo_part (some i) ((gJ p - (1 : Int64)) + gJ m) (Int32.toInt64 x9) h10) fun x10 h11 => gk_cv h11 x5 1 (f_SB_append_String x5 x10 h11) fun x11 h12 => gk_cv h12 x5 1 (f_SB_toString x5 h12) fun x12 h13 => f_Va_ofText x12 h13) else f_Va_ofError (3 : Int32) (gv_ov h S)) (if p < 1 ∨ m < 0 then gc_e 3 else gc_txt (lp l 0 (p - 1) ++ fr ++ lp l (p - 1 + m) l.length)) 100 4600 := by
  have e3 := (vr_c (vr_err (S := S) hc 3 (by decide) (by decide))).le (k' := 100) (s' := 4600) (by decide) (by decide)
  rw [show (0 : Int64) = gJ 0 from gJl_0, show (1 : Int64) = gJ 1 from gJl_1, jte_lt _ _ _ _ (by omega) (by omega) (by omega) (by omega), jte_ge _ _ _ _ (by omega) (by omega) (by omega) (by omega), gJ_sub, gJ_add]
  by_cases z : p < 1
  · rw [if_pos z, if_pos (Or.inl z)]
    exact e3
  · by_cases z2 : m < 0
    · rw [if_neg z, if_neg (show ¬ (0 : Int) ≤ m by omega), if_pos (Or.inr z2)]
      exact e3
    · have q1l := lp_len l 0 (p - 1)
      have q2l := lp_len l (p - 1 + m) l.length
      obtain ⟨g1, n1, n2⟩ := lb_new (S := S) (h0 := h) hc.1.1 hc.1 (gp_ext.refl h) 800
      obtain ⟨x, x1, x2, x3, x4⟩ := n2.arr
      obtain ⟨r1, g2, a1, a2, a3⟩ := w_part (S := S) (hc.at n2.ext x1 x2) ((hi.other x1).ext n2.ext) hl 0 (p - 1) (by omega) (by omega)
      obtain ⟨g3, b1, b2⟩ := lb_appL (S := S) n2 a3 x3 x4 a2 (by show 0 + _ ≤ 800; omega) (by decide)
      obtain ⟨g4, c1, c2⟩ := lb_appS (S := S) b2 hj (by rw [List.length_append]; show 0 + _ + _ ≤ 800; omega) (by decide)
      obtain ⟨y, y1, y2, y3, y4⟩ := c2.arr
      obtain ⟨r2, g5, d1, d2, d3⟩ := w_part (S := S) (hc.at c2.ext y1 y2) ((hi.other y1).ext c2.ext) hl (p - 1 + m) l.length (by omega) (by omega)
      obtain ⟨g6, e1, e2⟩ := lb_appL (S := S) c2 d3 y3 y4 d2 (by rw [List.length_append, List.length_append]; show 0 + _ + _ + _ ≤ 800; omega) (by decide)
      obtain ⟨r3, g7, f1, f2, f3⟩ := lb_end (S := S) e2 (by rw [List.length_append, List.length_append, List.length_append]; show 0 + _ + _ + _ ≤ 800; omega) hc (((okT.nil.app (ok.sub _ _)).app okf).app (ok.sub _ _))
      rw [if_neg z, if_pos (show (0 : Int) ≤ m by omega), if_neg (show ¬ (p < 1 ∨ m < 0) by omega), n1, a1, gk_ca_some, lb_cv (n2.more a3), b1, gk_ca_some, lb_cv b2, c1, gk_ca_some, st_cv (c2.str hi), s_len c2.st (c2.str hi), gk_ca_some, gI_toJ _ (by omega), d1, gk_ca_some, lb_cv (c2.more d3), e1, gk_ca_some, f1]
      rw [List.nil_append] at f2
      exact ⟨r3, g7, rfl, f2, f3.le (by decide) (by decide)⟩
theorem w_substituted (hc : gp_cs b h) (hi : gp_str b h i l) (hl : l.length ≤ 255) (ok : okT l) {old fr : List Nat} {k : Nat} (hj : gp_str b h j old) (hol : old.length ≤ 255) (oko : okT old) (hk : gp_str b h k fr) (hfr : fr.length ≤ 255) (okf : okT fr) (all : Bool) (only : Int) (ho : -9007199254740992 < only ∧ only < 9007199254740992) : vRc b h S (gk_nw (gv_ov h S) 1 4 fun x2 h2 => gk_cv h2 x2 1 (f_SB_init x2 h2) fun _ h3 => f_Wo_substituted_b68 gk_F (some i) (some j) (some k) (gB all) (gJ only) x2 (0 : Int32) (0 : Int64) h3) (gc_txt (sp_sbt old fr all only l.length l [] 0)) 70 2800 := by
  obtain ⟨g1, n1, n2⟩ := lb_new (S := S) (h0 := h) hc.1.1 hc.1 (gp_ext.refl h) 510
  have loop : ∀ (m : Nat) (t p mz : List Nat) (fo fu : Nat) (h1 : gk_H), l = p ++ t → t.length ≤ m → m < fu → mz.length ≤ 510 → okT mz → fo ≤ p.length → gp_lb h h1 h.1 510 (0 + 2) 0 mz → vRc b h S (f_Wo_substituted_b68 fu (some i) (some j) (some k) (gB all) (gJ only) (some h.1) (gI p.length) (gJ (fo : Int)) (gv_ov h1 S)) (gc_txt (sp_sbt old fr all only m t mz fo)) 70 2800 := by
    intro m
    have fin : ∀ (mz : List Nat) (h1 : gk_H), mz.length ≤ 510 → okT mz → gp_lb h h1 h.1 510 (0 + 2) 0 mz → vRc b h S (f_Wo_substituted_b165 (some h.1) (gv_ov h1 S)) (gc_txt mz) 70 2800 := by
      intro mz h1 hm okm q
      obtain ⟨r, h2, e1, e2, e3⟩ := lb_end (S := S) q hm hc okm
      unfold f_Wo_substituted_b165
      simp only [ca_id]
      rw [e1]
      exact ⟨r, h2, rfl, e2, e3.le (by decide) (by decide)⟩
    induction m with
    | zero =>
      intro t p mz fo fu h1 hp ht hfu hm okm hfo q
      obtain ⟨fu, rfl⟩ : ∃ f, fu = f + 1 := ⟨fu - 1, by omega⟩
      have hpl : l.length = p.length + t.length := by rw [hp]; simp
      rw [f_Wo_substituted_b68]
      dsimp only
      rw [st_cv (q.str hi), s_len q.st (q.str hi), gk_ca_some, ite_le _ _ _ _ (by omega) (by omega), if_pos (by omega)]
      exact fin mz h1 hm okm q
    | succ m ih =>
      intro t p mz fo fu h1 hp ht hfu hm okm hfo q
      obtain ⟨fu, rfl⟩ : ∃ f, fu = f + 1 := ⟨fu - 1, by omega⟩
      have hpl : l.length = p.length + t.length := by rw [hp]; simp
      have hdp : l.drop p.length = t := by rw [hp]; simp
      rw [f_Wo_substituted_b68, sp_sbt]
      dsimp only
      rw [st_cv (q.str hi), s_len q.st (q.str hi), gk_ca_some, ite_le _ _ _ _ (by omega) (by omega)]
      by_cases z : t = []
      · rw [if_pos (by rw [hpl, z]; exact Nat.le_refl _), if_pos (Or.inl z)]
        exact fin mz h1 hm okm q
      · have htl : 0 < t.length := List.length_pos_iff.mpr z
        rw [if_neg (by omega), lb_cv q, lb_len q, gk_ca_some, gI_lit 255, ite_lt _ _ _ _ (by decide) (by omega)]
        by_cases z2 : 255 < mz.length
        · rw [if_pos z2, if_pos (Or.inr z2)]
          exact fin mz h1 hm okm q
        · rw [if_neg z2, if_neg (show ¬ (t = [] ∨ 255 < mz.length) from fun w => w.elim z z2), st_cv (q.str hj), s_emp (q.str hj), gk_ca_some, w_stands q.st (q.str hj) (q.str hi) (by omega) (by omega) oko ok p.length (by omega), hdp, gk_ca_some]
          have one : vRc b h S (f_Wo_substituted_b147 (f_Wo_substituted_b68 fu) (some i) (some j) (some k) (gB all) (gJ only) (some h.1) (gI p.length) (gJ (fo : Int)) (gv_ov h1 S)) (gc_txt (sp_sbt old fr all only m (t.drop 1) (mz ++ [t.getD 0 0]) fo)) 70 2800 := by
            obtain ⟨c, t, rfl⟩ : ∃ c r, t = c :: r := by
              cases t with
              | nil => exact absurd rfl z
              | cons c r => exact ⟨c, r, rfl⟩
            have hg : l.getD p.length 0 = c := by rw [hp]; exact gp_mid p t c
            obtain ⟨c1, c2⟩ := ok c (by rw [hp]; simp)
            obtain ⟨h2, a1, a2⟩ := lb_appC (S := S) q c (by omega) (by omega) (by decide)
            rw [List.length_cons] at ht
            have := ih t (p ++ [c]) (mz ++ [c]) fo fu h2 (by rw [hp]; simp) (by omega) (by omega) (by simp; omega) (okm.app (okT.one c1 c2)) (by simp; omega) a2
            rw [List.length_append, List.length_singleton] at this
            unfold f_Wo_substituted_b147
            rw [st_cv (q.str hi), s_charAt q.st (q.str hi) (by omega), gk_ca_some, hg, lb_cv q, a1, gk_ca_some, gk_let_eq, show gI p.length + (1 : Int32) = gI (p.length + 1) from gI_add _ 1]
            exact this
          by_cases z3 : old = []
          · rw [if_pos z3, if_neg (by decide), if_neg (fun w => w.1 z3)]
            exact one
          · rw [if_neg z3, if_pos rfl]
            by_cases z4 : p.length + old.length ≤ l.length ∧ old.isPrefixOf t = true
            · have hstep : ∀ (x : List Nat) (xi : Nat), gp_str b h xi x → x.length ≤ 255 → okT x → vRc b h S (f_Wo_substituted_b131 (f_Wo_substituted_b68 fu) (some i) (some j) (some k) (gB all) (gJ only) (some h.1) (gI p.length) (gJ ((fo : Int) + 1)) (some h.1) (some xi) (gv_ov h1 S)) (gc_txt (sp_sbt old fr all only m (t.drop old.length) (mz ++ x) (fo + 1))) 70 2800 := by
                intro x xi hx hxl okx
                have hol0 : 0 < old.length := List.length_pos_iff.mpr z3
                obtain ⟨h2, a1, a2⟩ := lb_appS (S := S) q hx (by omega) (by decide)
                have htk : (t.take old.length).length = old.length := by rw [List.length_take]; omega
                have := ih (t.drop old.length) (p ++ t.take old.length) (mz ++ x) (fo + 1) fu h2 (by rw [List.append_assoc, List.take_append_drop]; exact hp) (by rw [List.length_drop]; omega) (by omega) (by rw [List.length_append]; omega) (okm.app okx) (by rw [List.length_append, htk]; omega) a2
                rw [List.length_append, htk] at this
                unfold f_Wo_substituted_b131
                rw [lb_cv q, a1, gk_ca_some, st_cv (a2.str hj), s_len a2.st (a2.str hj), gk_ca_some, gk_let_eq, gI_add]
                exact this
              rw [if_pos (show old ≠ [] ∧ old.isPrefixOf t = true from ⟨z3, z4.2⟩), decide_eq_true z4, if_neg (by decide), gk_let_eq, show (1 : Int64) = gJ 1 from gJl_1, gJ_add, ite_B, jte_eq _ _ _ _ (by omega) (by omega) (by omega) (by omega)]
              unfold f_Wo_substituted_b126
              by_cases z5 : all = true
              · rw [if_pos z5, if_pos (Or.inl z5)]
                exact hstep fr k hk hfr okf
              · rw [if_neg z5]
                by_cases z6 : (fo : Int) + 1 = only
                · rw [if_pos z6, if_pos (Or.inr z6)]
                  exact hstep fr k hk hfr okf
                · rw [if_neg z6, if_neg (show ¬ (all = true ∨ (fo : Int) + 1 = only) from fun w => w.elim z5 z6)]
                  exact hstep old j hj hol oko
            · have hnp : ¬ (old ≠ [] ∧ old.isPrefixOf t = true) := fun w => z4 ⟨by
                have := (List.isPrefixOf_iff_prefix.mp w.2).length_le
                omega, w.2⟩
              rw [if_neg hnp, decide_eq_false z4, if_pos (show gB false = 0 from rfl)]
              exact one
  rw [n1]
  exact loop l.length l [] [] 0 gk_F g1 rfl (Nat.le_refl _) (by unfold gk_F; omega) (Nat.zero_le _) okT.nil (Nat.zero_le _) n2
theorem gN_m1 {p : Nat} (hp : p < 2147483648) {β : Sort _} (x y : β) : (if gI p = (-1 : Int32) then x else y) = y := by
  rw [gI_m1B, gI_N, nte_eq _ _ _ _ (by omega) (by omega) (by omega) (by omega), if_neg (by omega)]
def sp_fd (r : Option Nat) : gp_C := match r with
  | none => gc_e 3
  | some p => gc_n (FP.i2d (gI (p + 1)))
theorem sp_fnd_b (pt : List Nat) : ∀ (m p q : Nat), sp_fnd pt l m p = some q → q < p + m
  | 0, _, _, h => by cases h
  | m + 1, p, q, h => by
    unfold sp_fnd at h
    split at h
    · cases h
      omega
    · have := sp_fnd_b pt m (p + 1) q h
      omega
theorem lk_first_b (ms : List Int) : ∀ (m p q : Nat), lk_first ms l m p = some q → q < p + m
  | 0, _, _, h => by cases h
  | m + 1, p, q, h => by
    unfold lk_first at h
    split at h
    · cases h
      omega
    · have := lk_first_b ms m (p + 1) q h
      omega
theorem w_firstPlace (hs : gp_st h) {pt : List Nat} (hi : gp_str b h i pt) (hj : gp_str b h j l) (hl : l.length ≤ 255) (hp : pt.length ≤ 255) (okp : okT pt) (okl : okT l) (p : Nat) (hpl : p ≤ l.length) : f_Wo_firstPlace (some i) (some j) (gI p) (gv_ov h S) = some (match sp_fnd pt l (l.length + 1 - p) p with | none => (-1 : Int32) | some q => gI q, gv_ov h S) := by
  have loop : ∀ (m p fu : Nat), p + m = l.length + 1 → m < fu → f_Wo_firstPlace_b2 fu (some i) (some j) (gI p) (gv_ov h S) = some (match sp_fnd pt l m p with | none => (-1 : Int32) | some q => gI q, gv_ov h S) := by
    intro m
    induction m with
    | zero =>
      intro p fu hk hf
      obtain ⟨fu, rfl⟩ : ∃ f, fu = f + 1 := ⟨fu - 1, by omega⟩
      rw [f_Wo_firstPlace_b2]
      dsimp only
      rw [st_cv hj, s_len hs hj, gk_ca_some, ite_lt _ _ _ _ (by omega) (by omega), if_pos (by omega)]
      rfl
    | succ m ih =>
      intro p fu hk hf
      obtain ⟨fu, rfl⟩ : ∃ f, fu = f + 1 := ⟨fu - 1, by omega⟩
      rw [f_Wo_firstPlace_b2, sp_fnd]
      dsimp only
      rw [st_cv hj, s_len hs hj, gk_ca_some, ite_lt _ _ _ _ (by omega) (by omega), if_neg (by omega), w_stands hs hi hj (by omega) (by omega) okp okl p (by omega), gk_ca_some, ite_B, gk_let_eq, show gI p + (1 : Int32) = gI (p + 1) from gI_add _ 1]
      by_cases z : p + pt.length ≤ l.length ∧ pt.isPrefixOf (l.drop p) = true
      · rw [if_pos z, if_pos (decide_eq_true z)]
      · rw [if_neg z, if_neg (by rw [decide_eq_false z]; decide)]
        exact ih (p + 1) fu (by omega) (by omega)
  exact loop _ p gk_F (by omega) (by unfold gk_F; omega)
def sp_found (f : Nat) (pt l : List Nat) (fr : Int) : gp_C := if fr < 1 ∨ (l.length : Int) + 1 < fr then gc_e 3 else if f = 69 then sp_fd (lk_first (lk_tk pt) l (l.length + 1 - (fr.toNat - 1)) (fr.toNat - 1)) else sp_fd (sp_fnd pt l (l.length + 1 - (fr.toNat - 1)) (fr.toNat - 1))
def oW (vs : Nat → gp_V) (n k : Nat) : Nat := if k < n then sW vs k else 0
def oX (vs : Nat → gp_V) (n k : Nat) : Int := if k < n then sw_x vs k else 1
theorem oX_b (a : ga b h S vs n) (k : Nat) : -9007199254740992 < oX vs n k ∧ oX vs n k < 9007199254740992 ∧ oW vs n k ≤ 8 := by
  unfold oX oW
  split
  · rename_i z
    obtain ⟨w1, w2, w3⟩ := a.sW z
    exact ⟨w2, w3, w1⟩
  · omega
theorem a_or1 (a : ga b h S vs n) (hs : gp_st h) (k : Nat) (hk : k ≤ n) (hf : f ≤ 8) : f_Ar_wholeOr (some 20) (gI k) (1 : Int64) (gv_ov h (gA S f row)) = some (gJ (oX vs n k), gv_ov h (gA S (bl f (oW vs n k)) row)) := by
  rw [show (1 : Int64) = gJ 1 from gJl_1, a_wholeOrW a hs k hk 1 hf]
  unfold oX oW
  by_cases z : k < n
  · rw [if_pos z, if_pos z, if_pos z]
  · rw [if_neg z, if_neg z, if_neg z, bl_0]
theorem w_found (a : ga b h S vs n) (hc : gp_cs b h) (hf : f = 68 ∨ f = 69) (hn2 : 2 ≤ n) : cR b h S (f_Wo_found (gI f) (some 20) (gv_ov h (gA S 0 row))) (gV_1 (sx (bl (bl (sT vs 0).1 (sT vs 1).1) (oW vs n 2)) (sp_found f (sT vs 0).2 (sT vs 1).2 (oX vs n 2)))) 23 680 := by
  have hn := a.1
  obtain ⟨t1, t2, t3⟩ := a.sT (k := 0) (by omega)
  obtain ⟨u1, u2, u3⟩ := a.sT (k := 1) (by omega)
  obtain ⟨i, h1, i1, i2, i3⟩ := a_letters (f := 0) (row := row) a hc 0 (by omega) (by omega)
  rw [bl_n] at i1
  obtain ⟨j, h2, j1, j2, j3⟩ := a_letters (f := (sT vs 0).1) (row := row) (a.ext i3) (hc.ext i3) 1 (by omega) t1
  have e2 := i3.trans j3
  have hc2 := hc.ext e2
  have a2 := a.ext e2
  obtain ⟨o1, o2, o3⟩ := oX_b a 2
  have ho := a_or1 (f := bl (sT vs 0).1 (sT vs 1).1) (row := row) a2 hc2.1 2 (by omega) (bl_le t1 u1)
  have hE := bl_le (bl_le t1 u1) o3
  unfold f_Wo_found f_Wo_found_b40 f_Wo_found_b89 f_Wo_found_b110
  simp only [ca_id]
  have i1' : f_Ar_lettersOf (some 20) (0 : Int32) (gv_ov h (gA S 0 row)) = some (some i, gv_ov h1 (gA S (sT vs 0).1 row)) := i1
  have j1' : f_Ar_lettersOf (some 20) (1 : Int32) (gv_ov h1 (gA S (sT vs 0).1 row)) = some (some j, gv_ov h2 (gA S (bl (sT vs 0).1 (sT vs 1).1) row)) := j1
  have ho' : f_Ar_wholeOr (some 20) (2 : Int32) (1 : Int64) (gv_ov h2 (gA S (bl (sT vs 0).1 (sT vs 1).1) row)) = some (gJ (oX vs n 2), gv_ov h2 (gA S (bl (bl (sT vs 0).1 (sT vs 1).1) (oW vs n 2)) row)) := ho
  rw [gc_20, i1', gk_ca_some, gc_20, j1', gk_ca_some, gc_20, ho', gk_ca_some]
  generalize bl (bl (sT vs 0).1 (sT vs 1).1) (oW vs n 2) = E at hE ⊢
  have err := fun (T : gv_S) => vr_err (S := T) hc2 3 (by decide) (by decide)
  rw [show (1 : Int64) = gJ 1 from gJl_1, jte_lt _ _ _ _ (by omega) (by omega) (by omega) (by omega), st_cv j2, s_len hc2.1 j2, gk_ca_some, show gI (sT vs 1).2.length + (1 : Int32) = gI ((sT vs 1).2.length + 1) from gI_add _ 1, gI_toJ _ (by omega), jte_le _ _ _ _ (by omega) (by omega) (by omega) (by omega)]
  unfold sp_found
  have fin : ∀ (T : gv_S) (c : gp_C) (x : Option (Option Nat × gk_H)), mX mLk (gA S E row) T → vR b h2 T x c → cR b h S x (gV_1 (sx E c)) 23 680 := by
    intro T c x hT ⟨r, h3, q1, q2, q3⟩
    have sT := gA_self hT
    refine ⟨r, h3, T, E, row, gV_1 c, ?_, q2.val, (e2.trans q3).le (by decide) (by decide), gA_mX hT, hE, ?_⟩
    · rw [← sT]
      exact q1
    · unfold sx
      split <;> rfl
  have r0 := mX.refl mLk (gA S E row)
  by_cases z1 : oX vs n 2 < 1
  · rw [if_pos z1, if_pos (Or.inl z1)]
    exact fin _ _ _ r0 (err _)
  · rw [if_neg z1]
    by_cases z2 : oX vs n 2 ≤ ((sT vs 1).2.length + 1 : Nat)
    · have eF : Int64.toInt32 (gJ (oX vs n 2)) - (1 : Int32) = gI ((oX vs n 2).toNat - 1) := by
        rw [gJ_nI (by omega) (by omega)]
        exact gI_sub _ 1 (by omega)
      have last : ∀ (T : gv_S) (r : Option Nat), (∀ p, r = some p → p ≤ 300) → mX mLk (gA S E row) T → ∀ y : Int32, y = (match r with | none => (-1 : Int32) | some p => gI p) → cR b h S (if y = (-1 : Int32) then f_Va_ofError (3 : Int32) (gv_ov h2 T) else f_Va_ofNumber (FP.i2d (y + (1 : Int32))) (gv_ov h2 T)) (gV_1 (sx E (sp_fd r))) 23 680 := by
        intro T r hr hT y hy
        cases r with
        | none =>
          rw [hy]
          dsimp only
          rw [if_pos rfl]
          exact fin T _ _ hT (err T)
        | some p =>
          have := hr p rfl
          rw [hy]
          dsimp only
          rw [gN_m1 (by omega), show gI p + (1 : Int32) = gI (p + 1) from gI_add p 1]
          exact fin T _ _ hT (vr_n hc2 (fd_i2df _))
      rw [if_pos z2, if_neg (show ¬ (oX vs n 2 < 1 ∨ ((sT vs 1).2.length : Int) + 1 < oX vs n 2) by omega), gI_lit 69, ite_eq _ _ _ _ (by omega) (by decide), eF]
      by_cases z3 : f = 69
      · have hi2 := i2.ext j3
        obtain ⟨T1, p1, p2, p3⟩ := l_prepare hc2.1 hi2 t2 (gA S E row)
        obtain ⟨T2, q1, q2⟩ := l_first hc2.1 j2 u2 (lk_tk (sT vs 0).2) (Nat.le_trans (lk_tk_len _) t2) (lk_tk_b _ (fun c hcm => by have := t3 c hcm; omega)) T1 p3 ((oX vs n 2).toNat - 1) (by omega)
        have hb := lk_first_b (l := (sT vs 1).2) (lk_tk (sT vs 0).2) ((sT vs 1).2.length + 1 - ((oX vs n 2).toNat - 1)) ((oX vs n 2).toNat - 1)
        rw [if_pos z3, if_pos z3, gr_20_8, gc_26, p1, gk_ca_some, gr_20_8, gc_26, q1, gk_ca_some]
        refine last T2 _ (fun p hp => ?_) (p2.trans q2) _ ?_
        · have := hb p hp
          omega
        · cases lk_first (lk_tk (sT vs 0).2) (sT vs 1).2 ((sT vs 1).2.length + 1 - ((oX vs n 2).toNat - 1)) ((oX vs n 2).toNat - 1) <;> rfl
      · have hb := sp_fnd_b (l := (sT vs 1).2) (sT vs 0).2 ((sT vs 1).2.length + 1 - ((oX vs n 2).toNat - 1)) ((oX vs n 2).toNat - 1)
        rw [if_neg z3, if_neg z3, w_firstPlace hc2.1 (i2.ext j3) j2 u2 t2 t3 u3 _ (by omega), gk_ca_some]
        exact last _ _ (fun p hp => by have := hb p hp; omega) r0 _ rfl
    · rw [if_neg z2, if_pos (Or.inr (by omega))]
      exact fin _ _ _ r0 (err _)
end WO3
