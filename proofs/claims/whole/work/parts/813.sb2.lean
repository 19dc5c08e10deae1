/-! THE PURE PART: builders turned, cut, read -/
theorem gI_m1B : (-1 : Int32) = gN (-1) := by decide
section GPB2
variable {h : gk_H} {S : gv_S} {s a cap : Nat} {l : List Nat}
theorem b_char (hs : gp_st h) (q : gp_sb h s a cap l) (k : Nat) (hk : k < l.length) : f_SB_charAt (some s) (gI k) (gv_ov h S) = some (gI (l.getD k 0), gv_ov h S) := by
  obtain ⟨q1, q2, q3, q4, q5, q6, q7, q8, q9, q10, q11, q12, q13, q14, q15, q16⟩ := q
  obtain ⟨k1, k2⟩ := q15 k hk
  unfold f_SB_charAt f_AB_charAt
  rw [gp_cv q3 q7, gp_getI q3 q7 q9, gp_getR q3 q7 q8, gp_getI q3 q7 q10, gp_len q4 (by rw [q11]; decide), gI_shr0, q12, f_min _ _ (by omega) (by omega), gk_ca_some, Nat.min_eq_left q13, s_chk hs hk (by omega), gk_ca_some, if_pos rfl, gp_aldI q4 q11 (by omega) (by omega) k1, gI_char k2, if_pos (gI_nchar k2), gk_ca_some, if_pos (gI_nchar k2)]
theorem b_swap (q : gp_sb h s a cap l) (j k : Nat) (hj : j < l.length) (hk : k < l.length) (hjk : j ≠ k) (l' : List Nat) (hl : l'.length = l.length) (e1 : l'.getD j 0 = l.getD k 0) (e2 : l'.getD k 0 = l.getD j 0) (e3 : ∀ i, i < l.length → i ≠ j → i ≠ k → l'.getD i 0 = l.getD i 0) :
    ∃ h', (∀ {β : Type} (K : gk_H → Option β), (((gk_ald (gv_ov h S) (some a) 3 (gI j)).bind gk_asI).bind fun x2 => ((gk_ald (gv_ov h S) (some a) 3 (gI k)).bind gk_asI).bind fun x3 => (gk_ast (gv_ov h S) (some a) 3 (gI j) (.int x3)).bind fun h1 => (gk_ast h1 (some a) 3 (gI k) (.int x2)).bind K) = K (gv_ov h' S)) ∧ gp_sb h' s a cap l' ∧ h'.1 = h.1 ∧ h'.2.1 = h.2.1 ∧ ∀ i, i ≠ a → h'.2.2 i = h.2.2 i := by
  obtain ⟨q1, q2, q3, q4, q5, q6, q7, q8, q9, q10, q11, q12, q13, q14, q15, q16⟩ := q
  obtain ⟨j1, j2⟩ := q15 j hj
  obtain ⟨k1, k2⟩ := q15 k hk
  have hsa : s ≠ a := fun z => by rw [← z, q7] at q11; exact absurd q11 (by decide)
  have n1 : narrow (gk_tyt 3) (.int (gI (l.getD k 0))) = .int (gI (l.getD k 0)) := gI_nbyte k2
  have n2 : narrow (gk_tyt 3) (.int (gI (l.getD j 0))) = .int (gI (l.getD j 0)) := gI_nbyte j2
  refine ⟨gk_upd (gk_upd h a (3, cap, gk_put (h.2.2 a).2.2 j (.int (gI (l.getD k 0))))) a (3, cap, gk_put (gk_put (h.2.2 a).2.2 j (.int (gI (l.getD k 0)))) k (.int (gI (l.getD j 0)))), fun K => ?_, ?_, rfl, rfl, fun i hi => ?_⟩
  · rw [gp_aldI q4 q11 (by omega) (by omega) j1, gp_aldI q4 q11 (by omega) (by omega) k1, gp_ast q4 q6 q11 (by omega) (by omega) (by unfold gk_may; rfl), q12, n1]
    rw [gp_ast q4 q6 (by rw [gp_upd_at]) (by rw [gp_upd_at]; show k < cap; omega) (by rw [gp_upd_at]; show cap < _; omega) (by unfold gk_may; rfl), gp_upd_at, n2]
  · unfold gp_sb
    rw [gp_upd_at, gp_upd_ne _ _ _ _ hsa, gp_upd_ne _ _ _ _ hsa, hl]
    refine ⟨q1, q2, q3, q4, q5, q6, q7, q8, q9, q10, rfl, rfl, q13, q14, fun i hi => ?_, fun i hi => ?_⟩
    · show gk_put (gk_put _ j _) k _ i = _ ∧ _
      by_cases z : i = k
      · rw [z, gp_put_at, e2]
        exact ⟨rfl, j2⟩
      · rw [gp_put_ne _ _ _ _ z]
        by_cases z2 : i = j
        · rw [z2, gp_put_at, e1]
          exact ⟨rfl, k2⟩
        · rw [gp_put_ne _ _ _ _ z2, e3 i hi z2 z]
          exact q15 i hi
    · show ∃ v : Nat, v < 128 ∧ gk_put (gk_put _ j _) k _ i = _
      by_cases z : i = k
      · rw [z, gp_put_at]
        exact ⟨_, j2, rfl⟩
      · rw [gp_put_ne _ _ _ _ z]
        by_cases z2 : i = j
        · rw [z2, gp_put_at]
          exact ⟨_, k2, rfl⟩
        · rw [gp_put_ne _ _ _ _ z2]
          exact q16 i hi
  · rw [gp_upd_ne _ _ _ _ hi, gp_upd_ne _ _ _ _ hi]
/-- turned from the middle on -/
def rv (l : List Nat) (m : Nat) : List Nat := (List.range l.length).map fun i => if m ≤ i ∧ i + m < l.length then l.getD (l.length - 1 - i) 0 else l.getD i 0
theorem rv_len (l : List Nat) (m : Nat) : (rv l m).length = l.length := by
  unfold rv
  rw [List.length_map, List.length_range]
theorem rv_get (l : List Nat) (m i : Nat) (hi : i < l.length) : (rv l m).getD i 0 = if m ≤ i ∧ i + m < l.length then l.getD (l.length - 1 - i) 0 else l.getD i 0 := by
  unfold rv
  rw [List.getD_eq_getElem?_getD, List.getElem?_map, List.getElem?_range hi]
  rfl
theorem rv_0 (l : List Nat) : rv l 0 = l.reverse := by
  refine gp_eqD (by rw [rv_len, List.length_reverse]) fun k hk => ?_
  rw [rv_len] at hk
  rw [rv_get l 0 k hk, if_pos (by omega), List.getD_eq_getElem?_getD, List.getD_eq_getElem?_getD, List.getElem?_reverse hk]
theorem rv_half (l : List Nat) : rv l (l.length / 2) = l := by
  refine gp_eqD (rv_len _ _) fun k hk => ?_
  rw [rv_len] at hk
  rw [rv_get l _ k hk]
  split
  · rename_i z
    have : l.length - 1 - k = k := by omega
    rw [this]
  · rfl
theorem b_rloop (l : List Nat) (hl : l.length ≤ 1000) : ∀ (m fu : Nat) (h : gk_H), gp_sb h s a cap (rv l m) → m ≤ l.length / 2 → m < fu → ∃ h', f_AB_reverse_b28 fu (some s) (some a) (gN ((l.length : Int) - 1)) (gN ((m : Int) - 1)) (gv_ov h S) = some (some s, gv_ov h' S) ∧ gp_sb h' s a cap l.reverse ∧ h'.1 = h.1 ∧ h'.2.1 = h.2.1 ∧ ∀ i, i ≠ a → h'.2.2 i = h.2.2 i := by
  intro m
  induction m with
  | zero =>
    intro fu h q _ hf
    obtain ⟨fu, rfl⟩ : ∃ f, fu = f + 1 := ⟨fu - 1, by omega⟩
    rw [f_AB_reverse_b28]
    dsimp only
    rw [gN_0, nte_lt _ _ _ _ (by decide) (by decide) (by decide) (by decide), if_pos (by decide)]
    rw [rv_0] at q
    exact ⟨h, rfl, q, rfl, rfl, fun _ _ => rfl⟩
  | succ m ih =>
    intro fu h q hm hf
    obtain ⟨fu, rfl⟩ : ∃ f, fu = f + 1 := ⟨fu - 1, by omega⟩
    rw [f_AB_reverse_b28]
    dsimp only
    have hm1 : ((m + 1 : Nat) : Int) - 1 = (m : Int) := by omega
    rw [hm1, gN_0, nte_lt _ _ _ _ (by omega) (by omega) (by decide) (by decide), if_neg (by omega), gN_sub, gk_let_eq]
    have hk : gN ((l.length : Int) - 1 - (m : Int)) = gI (l.length - 1 - m) := by
      rw [gI_N]
      congr 1
      omega
    rw [hk, ← gI_N m]
    have hlen := rv_len l (m + 1)
    obtain ⟨h1, e1, e2, e3, e4, e5⟩ := b_swap (S := S) q m (l.length - 1 - m) (by omega) (by omega) (by omega) (rv l m) (by rw [rv_len, rv_len]) (by
      rw [rv_get l m m (by omega), rv_get l (m + 1) _ (by omega), if_pos (by omega), if_neg (by omega)]) (by
      rw [rv_get l m _ (by omega), rv_get l (m + 1) m (by omega), if_pos (by omega), if_neg (by omega)]
      congr 1
      omega) (fun i hi h1 h2 => by
      rw [hlen] at hi
      rw [rv_get l m i hi, rv_get l (m + 1) i hi]
      by_cases z : m ≤ i ∧ i + m < l.length
      · rw [if_pos z, if_pos (by omega)]
      · rw [if_neg z, if_neg (by omega)])
    rw [e1, gk_let_eq, gI_m1B, gI_N, gN_add]
    obtain ⟨h', r1, r2, r3, r4, r5⟩ := ih fu h1 e2 (by omega) (by omega)
    exact ⟨h', r1, r2, by rw [r3, e3], by rw [r4, e4], fun i hi => by rw [r5 i hi, e5 i hi]⟩
theorem b_rev (hs : gp_st h) (q : gp_sb h s a cap l) (hl : l.length ≤ 1000) : ∃ h', f_SB_reverse (some s) (gv_ov h S) = some (some s, gv_ov h' S) ∧ gp_sb h' s a cap l.reverse ∧ h'.1 = h.1 ∧ h'.2.1 = h.2.1 ∧ ∀ i, i ≠ a → h'.2.2 i = h.2.2 i := by
  have q0 := q
  obtain ⟨q1, q2, q3, q4, q5, q6, q7, q8, q9, q10, q11, q12, q13, q14, q15, q16⟩ := q
  unfold f_SB_reverse f_AB_reverse
  have hsh : (gN ((l.length : Int) - 1) - 1) >>> ((1 : Int32) &&& 31) = gN (((l.length / 2 : Nat) : Int) - 1) := by
    have : ∀ n : Fin 1001, (gN (((n.val : Nat) : Int) - 1) - 1) >>> ((1 : Int32) &&& 31) = gN (((n.val / 2 : Nat) : Int) - 1) := by decide +kernel
    exact this ⟨l.length, by omega⟩
  have h1 : gI l.length - 1 = gN ((l.length : Int) - 1) := gI_subN l.length 1
  rw [gp_cv q3 q7, gp_getR q3 q7 q8, gp_getI q3 q7 q10, h1, gk_let_eq, gp_cv q3 q7, b_lat hs q0, gk_ca_some, if_neg (by decide), gk_let_eq, hsh]
  obtain ⟨h', r1, r2, r3, r4, r5⟩ := b_rloop (S := S) (s := s) (a := a) (cap := cap) l hl (l.length / 2) gk_F h (by rw [rv_half]; exact q0) (Nat.le_refl _) (by unfold gk_F; omega)
  rw [r1, gk_ca_some]
  exact ⟨h', rfl, r2, r3, r4, r5⟩
theorem b_cut (hs : gp_st h) (q : gp_sb h s a cap l) (n : Nat) (hn : n ≤ l.length) (hc : cap ≤ 19000) : ∃ h' a' cap', f_SB_setLength (some s) (gI n) (gv_ov h S) = some ((), gv_ov h' S) ∧ gp_sb h' s a' cap' (l.take n) ∧ gp_gr h h' s a a' cap cap' n := by
  have q0 := q
  obtain ⟨q1, q2, q3, q4, q5, q6, q7, q8, q9, q10, q11, q12, q13, q14, q15, q16⟩ := q
  obtain ⟨h1, a1, cap1, e1, r1, r2, r3⟩ := b_ens (S := S) hs q0 n (by omega) hc
  have r0 := r1
  obtain ⟨t1, t2, t3, t4, t5, t6, t7, t8, t9, t10, t11, t12, t13, t14, t15, t16⟩ := r1
  have hsa : a1 ≠ s := fun z => by rw [z, t7] at t11; exact absurd t11 (by decide)
  have hlen : (l.take n).length = n := by rw [List.length_take, Nat.min_eq_left hn]
  have fin : ∀ h2 : gk_H, h2.1 = h1.1 → h2.2.1 = h1.2.1 → (∀ i, i ≠ s → h2.2.2 i = h1.2.2 i) → (h2.2.2 s).1 = 11 → (h2.2.2 s).2.2 0 = va_rf (some a1) → (h2.2.2 s).2.2 1 = .int 0 → ∃ h' a' cap', f_AB_setLength_b76 (some s) (gI n) (gv_ov h2 S) = some ((), gv_ov h' S) ∧ gp_sb h' s a' cap' (l.take n) ∧ gp_gr h h' s a a' cap cap' n := by
    intro h2 x1 x2 x3 x4 x5 x6
    have ea := x3 a1 hsa
    refine ⟨gk_upd h2 s (11, (h2.2.2 s).2.1, gk_put (h2.2.2 s).2.2 3 (.int (gI n))), a1, cap1, ?_, ?_, ?_⟩
    · unfold f_AB_setLength_b76
      rw [gp_set t3 t5 x4 (gv_fitI 1 3 rfl _)]
    · unfold gp_sb
      rw [gp_upd_at, gp_upd_ne _ _ _ _ hsa, ea, hlen]
      refine ⟨by show s < h2.1; rw [x1]; exact t1, by show a1 < h2.1; rw [x1]; exact t2, t3, t4, t5, t6, rfl, x5, x6, rfl, t11, t12, by omega, t14, fun k hk => ?_, t16⟩
      have := t15 k (by omega)
      rw [show (l.take n).getD k 0 = l.getD k 0 from by simp [List.getD_eq_getElem?_getD, List.getElem?_take, hk]]
      exact this
    · obtain ⟨g1, g2, g3, g4, g5, g6, g7⟩ := r3
      refine ⟨by show h.1 ≤ h2.1; rw [x1]; exact g1, by show 18 * h2.1 + _ ≤ _; rw [x1]; exact g2, by show h2.2.1 ≤ _; rw [x2]; exact g3, g4, g5, g6, fun i hi his hia => ?_⟩
      rw [gp_upd_ne _ _ _ _ his, x3 i his]
      exact g7 i hi his hia
  unfold f_SB_setLength f_AB_setLength
  rw [gp_cv q3 q7, gI_0, ite_le _ _ _ _ (by decide) (by omega), if_pos (Nat.zero_le _), gp_cv q3 q7, e1, gk_ca_some, gp_getI t3 t7 t10, ite_le _ _ _ _ (by omega) (by omega), if_pos hn, gp_getI t3 t7 t10, ite_le _ _ _ _ (by omega) (by omega)]
  by_cases z : l.length ≤ n
  · rw [if_pos z]
    obtain ⟨h', a', cap', f1, f2, f3⟩ := fin h1 rfl rfl (fun _ _ => rfl) t7 t8 t9
    rw [f1, gk_ca_some]
    exact ⟨h', a', cap', rfl, f2, f3⟩
  · rw [if_neg z, gp_set t3 t5 t7 (show gk_fit (gk_ty 1 2) (.int (1 : Int32)) = true by decide)]
    obtain ⟨h', a', cap', f1, f2, f3⟩ := fin (gk_upd h1 s (10 + 1, (h1.2.2 s).2.1, gk_put (h1.2.2 s).2.2 2 (.int 1))) rfl rfl (fun i hi => gp_upd_ne _ _ _ _ hi) (by rw [gp_upd_at]) (by rw [gp_upd_at]; exact t8) (by rw [gp_upd_at]; exact t9)
    rw [f1, gk_ca_some]
    exact ⟨h', a', cap', rfl, f2, f3⟩
end GPB2
section GPL2
variable {h0 h : gk_H} {S : gv_S} {s m c0 s0 : Nat} {l : List Nat}
theorem lb_char (q : gp_lb h0 h s m c0 s0 l) (k : Nat) (hk : k < l.length) : f_SB_charAt (some s) (gI k) (gv_ov h S) = some (gI (l.getD k 0), gv_ov h S) := by
  have qs := q.st
  obtain ⟨a, cap, q1, -⟩ := q
  exact b_char qs q1 k hk
theorem lb_rev (q : gp_lb h0 h s m c0 s0 l) (hl : l.length ≤ 1000) : ∃ h', f_SB_reverse (some s) (gv_ov h S) = some (some s, gv_ov h' S) ∧ gp_lb h0 h' s m c0 s0 l.reverse := by
  have qs := q.st
  obtain ⟨a, cap, q1, q2, q3, q4, q5, q6, q7, q8, q9, q10⟩ := q
  obtain ⟨h', r1, r2, r3, r4, r5⟩ := b_rev (S := S) qs q1 hl
  refine ⟨h', r1, a, cap, r2, q2, q3, q4, ?_, q6, by omega, by omega, by omega, fun i hi => by rw [r5 i (by omega), q10 i hi]⟩
  obtain ⟨w1, w2, w3, w4, w5, w6⟩ := q5
  have e := r5 0 (by omega)
  exact ⟨by omega, by rw [e]; exact w2, by rw [e]; exact w3, by rw [e]; exact w4, by rw [e]; exact w5, by rw [e]; exact w6⟩
theorem lb_cut (q : gp_lb h0 h s m c0 s0 l) (n : Nat) (hn : n ≤ l.length) (hm : l.length ≤ m) (hm2 : m ≤ 9000) : ∃ h', f_SB_setLength (some s) (gI n) (gv_ov h S) = some ((), gv_ov h' S) ∧ gp_lb h0 h' s m c0 s0 (l.take n) := by
  obtain ⟨a, cap, q1, q2, q3, q4, q5, q6, q7, q8, q9, q10⟩ := q
  obtain ⟨h', a', cap', e1, e2, e3⟩ := b_cut (S := S) q5 q1 n hn (by omega)
  have hst := q5.gr e3 q1.2.2.2.2.1 q1.2.2.2.2.2.1
  obtain ⟨g1, g2, g3, g4, g5, g6, g7⟩ := e3
  exact ⟨h', e1, a', cap', e2, q2, by omega, q4, hst, by omega, by omega, by omega, by omega, fun i hi => by rw [g7 i (by omega) (by omega) (by omega), q10 i hi]⟩
end GPL2
