/-! THE PURE PART: wording, the answer (class) -/
def oks (l : List Nat) : Prop := l.length ≤ 255 ∧ okT l
section WO4
variable {b n : Nat} {h : gk_H} {S : gv_S} {vs : Nat → gp_V} {f : Nat} {row : List UInt64} {j i : Nat} {l t : List Nat}
theorem cR.v {e : Nat} {x : Option (Option Nat × gk_H)} {c : gp_C} (hv : vR b h (gA S e row) x c) (he : e ≤ 8) : cR b h S x (gV_1 (sx e c)) 1 7 := cR.c hv he
/-- the letters of the first argument, then the rest -/
theorem w_one (a : ga b h S vs n) (hc : gp_cs b h) (hn : 1 ≤ n) (F : Option Nat → gk_H → Option (Option Nat × gk_H)) (c : gp_C) (e k s : Nat) (hF : ∀ (r : Nat) (h' : gk_H), gp_cs b h' → ga b h' S vs n → gp_str b h' r (sT vs 0).2 → cR b h' S (F (some r) (gv_ov h' (gA S (sT vs 0).1 row))) (gV_1 (sx e c)) k s) : cR b h S (gk_cv (gv_ov h (gA S 0 row)) (some 20) 4 (f_Ar_lettersOf (some 20) (0 : Int32) (gv_ov h (gA S 0 row))) F) (gV_1 (sx e c)) (11 + k) (336 + s) := by
  obtain ⟨i, h1, i1, i2, i3⟩ := a_letters (f := 0) (row := row) a hc 0 (by omega) (by omega)
  rw [bl_n] at i1
  have i1' : f_Ar_lettersOf (some 20) (0 : Int32) (gv_ov h (gA S 0 row)) = some (some i, gv_ov h1 (gA S (sT vs 0).1 row)) := i1
  rw [gc_20, i1', gk_ca_some]
  exact cR.pre i3 (hF i h1 (hc.ext i3) (a.ext i3) i2)
def sp_wo (f : Nat) (vs : Nat → gp_V) (n : Nat) : gp_C :=
  if f = 56 then sx (sT vs 0).1 (gc_n (FP.i2d (gI (sT vs 0).2.length)))
  else if f = 57 ∨ f = 58 then sx (bl (sT vs 0).1 (oW vs n 1)) (if oX vs n 1 < 0 then gc_e 3 else gc_txt (lp (sT vs 0).2 (if f = 57 then 0 else max 0 ((sT vs 0).2.length - oX vs n 1)) (oX vs n 1)))
  else if f = 59 then sx (bl (bl (sT vs 0).1 (sW vs 1)) (sW vs 2)) (if sw_x vs 1 < 1 ∨ sw_x vs 2 < 0 then gc_e 3 else gc_txt (lp (sT vs 0).2 (sw_x vs 1 - 1) (sw_x vs 2)))
  else if f = 60 ∨ f = 61 ∨ f = 62 then sx (sT vs 0).1 (gc_txt (sp_rec f (!decide (f = 61)) (sT vs 0).2))
  else if f = 63 then sx (sT vs 0).1 (gc_txt (sp_trm false [] (sT vs 0).2))
  else if f = 64 then sx (st_err vs n) (gc_txt (sj vs n))
  else if f = 65 then sx (bl (sT vs 0).1 (sW vs 1)) (if sw_x vs 1 < 0 ∨ 255 < ((sT vs 0).2.length : Int) * sw_x vs 1 then gc_e 3 else gc_txt (sp_rpt (sT vs 0).2 (min (sw_x vs 1) 255).toNat))
  else if f = 66 then sx (bl (bl (bl (sT vs 0).1 (sT vs 1).1) (sT vs 2).1) (oW vs n 3)) (if oX vs n 3 < 1 then gc_e 3 else gc_txt (sp_sbt (sT vs 1).2 (sT vs 2).2 (!decide (4 ≤ n)) (oX vs n 3) (sT vs 0).2.length (sT vs 0).2 [] 0))
  else if f = 67 then sx (bl (bl (bl (sT vs 0).1 (sW vs 1)) (sW vs 2)) (sT vs 3).1) (if sw_x vs 1 < 1 ∨ sw_x vs 2 < 0 then gc_e 3 else gc_txt (lp (sT vs 0).2 0 (sw_x vs 1 - 1) ++ (sT vs 3).2 ++ lp (sT vs 0).2 (sw_x vs 1 - 1 + sw_x vs 2) (sT vs 0).2.length))
  else if f = 68 ∨ f = 69 then sx (bl (bl (sT vs 0).1 (sT vs 1).1) (oW vs n 2)) (sp_found f (sT vs 0).2 (sT vs 1).2 (oX vs n 2))
  else if f = 70 then sx (bl (sT vs 0).1 (sT vs 1).1) (gc_b (decide ((sT vs 0).2 = (sT vs 1).2)))
  else if f = 71 then sx (sW vs 0) (if sw_x vs 0 < 32 ∨ 126 < sw_x vs 0 then gc_e 3 else gc_txt [(sw_x vs 0).toNat])
  else if f = 72 then sx (sT vs 0).1 (if (sT vs 0).2 = [] then gc_e 3 else gc_n (FP.i2d (gI ((sT vs 0).2.getD 0 0))))
  else sx (sT vs 0).1 (if nl_is (sT vs 0).2 = true then gc_n (nl_val (sT vs 0).2) else gc_e 3)
theorem w_answer (a : ga b h S vs n) (hc : gp_cs b h) (h1 : 56 ≤ f) (h2 : f ≤ 73) (hn1 : 1 ≤ n) (hn2 : f = 65 ∨ f = 68 ∨ f = 69 ∨ f = 70 → 2 ≤ n) (hn3 : f = 59 ∨ f = 66 → 3 ≤ n) (hn4 : f = 67 → 4 ≤ n) : cR b h S (f_Wo_answer (gI f) (some 20) (gv_ov h (gA S 0 row))) (gV_1 (sp_wo f vs n)) 150 5800 := by
  have hn := a.1
  obtain ⟨t1, t2, t3⟩ := a.sT (k := 0) (by omega)
  have okt : okT (sT vs 0).2 := t3
  have hfs : f = 56 ∨ f = 57 ∨ f = 58 ∨ f = 59 ∨ f = 60 ∨ f = 61 ∨ f = 62 ∨ f = 63 ∨ f = 64 ∨ f = 65 ∨ f = 66 ∨ f = 67 ∨ f = 68 ∨ f = 69 ∨ f = 70 ∨ f = 71 ∨ f = 72 ∨ f = 73 := by omega
  unfold f_Wo_answer f_Wo_answer_b101 f_Wo_answer_b136 f_Wo_answer_b184
  simp only [ca_id]
  have side : f = 57 ∨ f = 58 → cR b h S (gk_cv (gv_ov h (gA S 0 row)) (some 20) 4 (f_Ar_lettersOf (some 20) (0 : Int32) (gv_ov h (gA S 0 row))) fun x1 h1 => gk_cv h1 (some 20) 4 (f_Ar_wholeOr (some 20) (1 : Int32) (1 : Int64) h1) fun x2 h2 => f_Wo_side (gI f) x1 x2 h2) (gV_1 (sx (bl (sT vs 0).1 (oW vs n 1)) (if oX vs n 1 < 0 then gc_e 3 else gc_txt (lp (sT vs 0).2 (if f = 57 then 0 else max 0 ((sT vs 0).2.length - oX vs n 1)) (oX vs n 1))))) 150 5800 := fun hh => by
    refine (w_one a hc hn1 _ _ _ 3 266 fun r h' c1 c2 c3 => ?_).le (by decide) (by decide)
    obtain ⟨o1, o2, o3⟩ := oX_b a 1
    have ho : f_Ar_wholeOr (some 20) (1 : Int32) (1 : Int64) (gv_ov h' (gA S (sT vs 0).1 row)) = _ := a_or1 (row := row) c2 c1.1 1 (by omega) t1
    rw [gc_20, ho, gk_ca_some]
    exact cR.c (w_side c1 c3 t2 okt _ ⟨o1, o2⟩ hh) (bl_le t1 o3)
  have recast : f = 60 ∨ f = 61 ∨ f = 62 → cR b h S (gk_cv (gv_ov h (gA S 0 row)) (some 20) 4 (f_Ar_lettersOf (some 20) (0 : Int32) (gv_ov h (gA S 0 row))) fun x1 h1 => f_Wo_recast (gI f) x1 h1) (gV_1 (sx (sT vs 0).1 (gc_txt (sp_rec f (!decide (f = 61)) (sT vs 0).2)))) 150 5800 := fun hh => (w_one a hc hn1 _ _ _ 34 1400 fun r h' c1 c2 c3 => cR.c (w_recast c1 c3 t2 okt hh) t1).le (by decide) (by decide)
  rcases hfs with rfl | rfl | rfl | rfl | rfl | rfl | rfl | rfl | rfl | rfl | rfl | rfl | rfl | rfl | rfl | rfl | rfl | rfl
  · rw [if_pos (by decide)]
    exact (w_one a hc hn1 _ (gc_n (FP.i2d (gI (sT vs 0).2.length))) (sT vs 0).1 1 7 fun r h' c1 c2 c3 => by
      rw [st_cv c3, s_len c1.1 c3, gk_ca_some]
      exact cR.v (vr_n c1 (fd_i2df _)) t1).le (by decide) (by decide)
  · rw [if_neg (by decide), if_pos (by decide)]
    exact side (by decide)
  · rw [if_neg (by decide), if_neg (by decide), if_pos (by decide)]
    exact side (by decide)
  · rw [if_neg (by decide), if_neg (by decide), if_neg (by decide), if_pos (by decide)]
    obtain ⟨w1, w2, w3⟩ := a.sW (k := 1) (by have := hn3 (by decide); omega)
    obtain ⟨x1, x2, x3⟩ := a.sW (k := 2) (by have := hn3 (by decide); omega)
    exact (w_one a hc hn1 _ (if sw_x vs 1 < 1 ∨ sw_x vs 2 < 0 then gc_e 3 else gc_txt (lp (sT vs 0).2 (sw_x vs 1 - 1) (sw_x vs 2))) (bl (bl (sT vs 0).1 (sW vs 1)) (sW vs 2)) 3 266 fun r h' c1 c2 c3 => by
      have e1 : f_Ar_whole (some 20) (1 : Int32) (gv_ov h' (gA S (sT vs 0).1 row)) = _ := a_wholeW c2 c1.1 1 (by have := hn3 (by decide); omega) t1
      have e2 : f_Ar_whole (some 20) (2 : Int32) (gv_ov h' (gA S (bl (sT vs 0).1 (sW vs 1)) row)) = _ := a_wholeW c2 c1.1 2 (by have := hn3 (by decide); omega) (bl_le t1 w1)
      rw [gc_20, e1, gk_ca_some, gc_20, e2, gk_ca_some]
      exact cR.c (w_middle c1 c3 t2 okt _ _ ⟨w2, w3⟩ ⟨x2, x3⟩) (bl_le (bl_le t1 w1) x1)).le (by decide) (by decide)
  · rw [if_neg (by decide), if_neg (by decide), if_neg (by decide), if_neg (by decide), if_pos (by decide)]
    exact recast (by decide)
  · rw [if_neg (by decide), if_neg (by decide), if_neg (by decide), if_neg (by decide), if_neg (by decide), if_pos (by decide)]
    exact recast (by decide)
  · rw [if_neg (by decide), if_neg (by decide), if_neg (by decide), if_neg (by decide), if_neg (by decide), if_neg (by decide), if_pos (by decide)]
    exact recast (by decide)
  · rw [if_neg (by decide), if_neg (by decide), if_neg (by decide), if_neg (by decide), if_neg (by decide), if_neg (by decide), if_neg (by decide), if_pos (by decide)]
    exact (w_one a hc hn1 _ (gc_txt (sp_trm false [] (sT vs 0).2)) (sT vs 0).1 70 2800 fun r h' c1 c2 c3 => cR.c (w_trimmed c1 c3 t2 okt) t1).le (by decide) (by decide)
  · rw [if_neg (by decide), if_neg (by decide), if_neg (by decide), if_neg (by decide), if_neg (by decide), if_neg (by decide), if_neg (by decide), if_neg (by decide), if_pos (by decide)]
    exact (w_joined a hc).le (by decide) (by decide)
  · rw [if_neg (by decide), if_neg (by decide), if_neg (by decide), if_neg (by decide), if_neg (by decide), if_neg (by decide), if_neg (by decide), if_neg (by decide), if_neg (by decide), if_pos (by decide)]
    obtain ⟨w1, w2, w3⟩ := a.sW (k := 1) (by have := hn2 (by decide); omega)
    exact (w_one a hc hn1 _ (if sw_x vs 1 < 0 ∨ 255 < ((sT vs 0).2.length : Int) * sw_x vs 1 then gc_e 3 else gc_txt (sp_rpt (sT vs 0).2 (min (sw_x vs 1) 255).toNat)) (bl (sT vs 0).1 (sW vs 1)) 34 1400 fun r h' c1 c2 c3 => by
      have e1 : f_Ar_whole (some 20) (1 : Int32) (gv_ov h' (gA S (sT vs 0).1 row)) = _ := a_wholeW c2 c1.1 1 (by have := hn2 (by decide); omega) t1
      rw [gc_20, e1, gk_ca_some]
      exact cR.c (w_repeated c1 c3 t2 okt _ ⟨w2, w3⟩) (bl_le t1 w1)).le (by decide) (by decide)
  · rw [if_neg (by decide), if_neg (by decide), if_neg (by decide), if_neg (by decide), if_neg (by decide), if_neg (by decide), if_neg (by decide), if_neg (by decide), if_neg (by decide), if_neg (by decide), if_pos (by decide)]
    have h3 := hn3 (by decide)
    obtain ⟨u1, u2, u3⟩ := a.sT (k := 1) (by omega)
    obtain ⟨v1, v2, v3⟩ := a.sT (k := 2) (by omega)
    obtain ⟨o1, o2, o3⟩ := oX_b a 3
    unfold f_Wo_substituted f_Wo_substituted_b31
    exact (w_one a hc hn1 _ (if oX vs n 3 < 1 then gc_e 3 else gc_txt (sp_sbt (sT vs 1).2 (sT vs 2).2 (!decide (4 ≤ n)) (oX vs n 3) (sT vs 0).2.length (sT vs 0).2 [] 0)) (bl (bl (bl (sT vs 0).1 (sT vs 1).1) (sT vs 2).1) (oW vs n 3)) 92 3472 fun r h' c1 c2 c3 => by
      obtain ⟨j, g2, j1, j2, j3⟩ := a_letters (row := row) c2 c1 1 (by omega) t1
      obtain ⟨k, g3, k1, k2, k3⟩ := a_letters (row := row) (c2.ext j3) (c1.ext j3) 2 (by omega) (bl_le t1 u1)
      have e2 := j3.trans k3
      have hc3 := c1.ext e2
      have j1' : f_Ar_lettersOf (some 20) (1 : Int32) (gv_ov h' (gA S (sT vs 0).1 row)) = _ := j1
      have k1' : f_Ar_lettersOf (some 20) (2 : Int32) (gv_ov g2 (gA S (bl (sT vs 0).1 (sT vs 1).1) row)) = _ := k1
      have ho : f_Ar_wholeOr (some 20) (3 : Int32) (1 : Int64) (gv_ov g3 (gA S (bl (bl (sT vs 0).1 (sT vs 1).1) (sT vs 2).1) row)) = _ := a_or1 (row := row) (c2.ext e2) hc3.1 3 (by omega) (bl_le (bl_le t1 u1) v1)
      have hE := bl_le (bl_le (bl_le t1 u1) v1) o3
      have go : ∀ all : Bool, cR b h' S (if 0 ≤ lg_cmp (gJ (oX vs n 3)) (1 : Int64) then (gk_nw (gv_ov g3 (gA S (bl (bl (bl (sT vs 0).1 (sT vs 1).1) (sT vs 2).1) (oW vs n 3)) row)) 1 4 fun x2 h2 => gk_cv h2 x2 1 (f_SB_init x2 h2) fun _ h3 => f_Wo_substituted_b68 gk_F (some r) (some j) (some k) (gB all) (gJ (oX vs n 3)) x2 (0 : Int32) (0 : Int64) h3) else (f_Va_ofError (3 : Int32) (gv_ov g3 (gA S (bl (bl (bl (sT vs 0).1 (sT vs 1).1) (sT vs 2).1) (oW vs n 3)) row)))) (gV_1 (sx (bl (bl (bl (sT vs 0).1 (sT vs 1).1) (sT vs 2).1) (oW vs n 3)) (if oX vs n 3 < 1 then gc_e 3 else gc_txt (sp_sbt (sT vs 1).2 (sT vs 2).2 all (oX vs n 3) (sT vs 0).2.length (sT vs 0).2 [] 0)))) 92 3472 := by
        intro all
        rw [show (1 : Int64) = gJ 1 from gJl_1, jte_ge _ _ _ _ (by omega) (by omega) (by omega) (by omega)]
        by_cases z : oX vs n 3 < 1
        · rw [if_neg (show ¬ (1 : Int) ≤ oX vs n 3 by omega), if_pos z]
          exact (cR.pre e2 (cR.v (vr_err hc3 3 (by decide) (by decide)) hE)).le (by decide) (by decide)
        · rw [if_pos (show (1 : Int) ≤ oX vs n 3 by omega), if_neg z]
          exact (cR.pre e2 (cR.c (w_substituted hc3 (c3.ext e2) t2 okt (j2.ext k3) u2 u3 k2 v2 v3 all _ ⟨o1, o2⟩) hE)).le (by decide) (by decide)
      simp only [ca_id]
      rw [gc_20, j1', gk_ca_some, gc_20, k1', gk_ca_some, gc_20, a_many (c2.ext e2), gk_ca_some, gI_lit 4, ite_le _ _ _ _ (by decide) (by omega)]
      by_cases z : 4 ≤ n
      · rw [if_pos z, gc_20, ho, gk_ca_some, decide_eq_true z]
        exact go false
      · rw [if_neg z, gc_20, ho, gk_ca_some, decide_eq_false z]
        exact go true).le (by decide) (by decide)
  · rw [if_neg (by decide), if_neg (by decide), if_neg (by decide), if_neg (by decide), if_neg (by decide), if_neg (by decide), if_neg (by decide), if_neg (by decide), if_neg (by decide), if_neg (by decide), if_neg (by decide), if_pos (by decide)]
    have h4 := hn4 rfl
    obtain ⟨w1, w2, w3⟩ := a.sW (k := 1) (by omega)
    obtain ⟨x1, x2, x3⟩ := a.sW (k := 2) (by omega)
    obtain ⟨v1, v2, v3⟩ := a.sT (k := 3) (by omega)
    unfold f_Wo_replaced f_Wo_replaced_b39
    exact (w_one a hc hn1 _ (if sw_x vs 1 < 1 ∨ sw_x vs 2 < 0 then gc_e 3 else gc_txt (lp (sT vs 0).2 0 (sw_x vs 1 - 1) ++ (sT vs 3).2 ++ lp (sT vs 0).2 (sw_x vs 1 - 1 + sw_x vs 2) (sT vs 0).2.length)) (bl (bl (bl (sT vs 0).1 (sW vs 1)) (sW vs 2)) (sT vs 3).1) 111 4936 fun r h' c1 c2 c3 => by
      have e1 : f_Ar_whole (some 20) (1 : Int32) (gv_ov h' (gA S (sT vs 0).1 row)) = _ := a_wholeW c2 c1.1 1 (by omega) t1
      have e2 : f_Ar_whole (some 20) (2 : Int32) (gv_ov h' (gA S (bl (sT vs 0).1 (sW vs 1)) row)) = _ := a_wholeW c2 c1.1 2 (by omega) (bl_le t1 w1)
      obtain ⟨j, g2, j1, j2, j3⟩ := a_letters (row := row) c2 c1 3 (by omega) (bl_le (bl_le t1 w1) x1)
      have j1' : f_Ar_lettersOf (some 20) (3 : Int32) (gv_ov h' (gA S (bl (bl (sT vs 0).1 (sW vs 1)) (sW vs 2)) row)) = _ := j1
      simp only [ca_id]
      rw [gc_20, e1, gk_ca_some, gc_20, e2, gk_ca_some, gc_20, j1', gk_ca_some]
      exact cR.pre j3 (cR.c (w_replaced (c1.ext j3) (c3.ext j3) t2 okt j2 v2 v3 _ _ ⟨w2, w3⟩ ⟨x2, x3⟩) (bl_le (bl_le (bl_le t1 w1) x1) v1))).le (by decide) (by decide)
  · rw [if_neg (by decide), if_neg (by decide), if_neg (by decide), if_neg (by decide), if_neg (by decide), if_neg (by decide), if_neg (by decide), if_neg (by decide), if_neg (by decide), if_neg (by decide), if_neg (by decide), if_neg (by decide), if_pos (by decide)]
    exact (w_found a hc (by decide) (hn2 (by decide))).le (by decide) (by decide)
  · rw [if_neg (by decide), if_neg (by decide), if_neg (by decide), if_neg (by decide), if_neg (by decide), if_neg (by decide), if_neg (by decide), if_neg (by decide), if_neg (by decide), if_neg (by decide), if_neg (by decide), if_neg (by decide), if_neg (by decide), if_pos (by decide)]
    exact (w_found a hc (by decide) (hn2 (by decide))).le (by decide) (by decide)
  · rw [if_neg (by decide), if_neg (by decide), if_neg (by decide), if_neg (by decide), if_neg (by decide), if_neg (by decide), if_neg (by decide), if_neg (by decide), if_neg (by decide), if_neg (by decide), if_neg (by decide), if_neg (by decide), if_neg (by decide), if_neg (by decide), if_pos (by decide)]
    have h2' := hn2 (by decide)
    obtain ⟨u1, u2, u3⟩ := a.sT (k := 1) (by omega)
    exact (w_one a hc hn1 _ (gc_b (decide ((sT vs 0).2 = (sT vs 1).2))) (bl (sT vs 0).1 (sT vs 1).1) 12 343 fun r h' c1 c2 c3 => by
      obtain ⟨j, g2, j1, j2, j3⟩ := a_letters (row := row) c2 c1 1 (by omega) t1
      have j1' : f_Ar_lettersOf (some 20) (1 : Int32) (gv_ov h' (gA S (sT vs 0).1 row)) = _ := j1
      have eq : f_St_equals (some r) (some j) (gv_ov g2 (gA S (bl (sT vs 0).1 (sT vs 1).1) row)) = some (gB (decide ((sT vs 0).2 = (sT vs 1).2)), gv_ov g2 (gA S (bl (sT vs 0).1 (sT vs 1).1) row)) := by
        rw [s_eq (c1.ext j3).1 (c3.ext j3) j2]
        unfold gB
        simp only [decide_eq_true_eq]
      rw [gc_20, j1', gk_ca_some, st_cv (c3.ext j3), eq, gk_ca_some]
      exact cR.pre j3 (cR.v (vr_tru (c1.ext j3) _) (bl_le t1 u1))).le (by decide) (by decide)
  · rw [if_neg (by decide), if_neg (by decide), if_neg (by decide), if_neg (by decide), if_neg (by decide), if_neg (by decide), if_neg (by decide), if_neg (by decide), if_neg (by decide), if_neg (by decide), if_neg (by decide), if_neg (by decide), if_neg (by decide), if_neg (by decide), if_neg (by decide), if_pos (by decide)]
    obtain ⟨w1, w2, w3⟩ := a.sW (k := 0) (by omega)
    have e1 : f_Ar_whole (some 20) (0 : Int32) (gv_ov h (gA S 0 row)) = some (gJ (sw_x vs 0), gv_ov h (gA S (sW vs 0) row)) := a_wholeW a hc.1 0 (by omega) (by omega)
    rw [gc_20, e1, gk_ca_some]
    exact (cR.c (w_character hc _ ⟨w2, w3⟩) w1).le (by decide) (by decide)
  · rw [if_neg (by decide), if_neg (by decide), if_neg (by decide), if_neg (by decide), if_neg (by decide), if_neg (by decide), if_neg (by decide), if_neg (by decide), if_neg (by decide), if_neg (by decide), if_neg (by decide), if_neg (by decide), if_neg (by decide), if_neg (by decide), if_neg (by decide), if_neg (by decide), if_pos (by decide)]
    exact (w_one a hc hn1 _ (if (sT vs 0).2 = [] then gc_e 3 else gc_n (FP.i2d (gI ((sT vs 0).2.getD 0 0)))) (sT vs 0).1 1 7 fun r h' c1 c2 c3 => cR.c (w_codeOf c1 c3) t1).le (by decide) (by decide)
  · rw [if_neg (by decide), if_neg (by decide), if_neg (by decide), if_neg (by decide), if_neg (by decide), if_neg (by decide), if_neg (by decide), if_neg (by decide), if_neg (by decide), if_neg (by decide), if_neg (by decide), if_neg (by decide), if_neg (by decide), if_neg (by decide), if_neg (by decide), if_neg (by decide), if_neg (by decide), if_pos (by decide)]
    exact (w_one a hc hn1 _ (if nl_is (sT vs 0).2 = true then gc_n (nl_val (sT vs 0).2) else gc_e 3) (sT vs 0).1 1 7 fun r h' c1 c2 c3 => cR.c (w_numeralOf c1 c3 t2) t1).le (by decide) (by decide)
end WO4
