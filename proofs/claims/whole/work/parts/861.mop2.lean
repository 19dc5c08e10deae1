/-! THE PURE PART: the reference's operators, the rest -/
section MO2
variable {h : gk_H} {S : gv_S} {L : List gp_V} {u : List Nat} {V : gp_V} {f : Nat}
theorem jl_2 (l t : List Nat) : jl (fun k => if k = 0 then l else t) 2 = l ++ t := rfl
/-- joining -/
theorem mo_op7 (a : mS S L) (b : mU S u) (h2 : 2 ≤ L.length) : ∃ T, (∀ K : gk_H → Option (Unit × gk_H), (gk_cv (gv_ov h (mB0 S)) (some 30) 7 (f_M_wantText (some 30) (gI (L.length - 2)) (0 : Int32) (gv_ov h (mB0 S))) fun _ h3 => gk_cv h3 (some 30) 7 (f_M_wantText (some 30) (gI (L.length - 1)) (1 : Int32) h3) fun _ h4 => gk_cv h4 (some 30) 7 (f_M_join (some 30) (2 : Int32) h4) fun _ h5 => K h5) = K (gv_ov h T)) ∧ ∃ e W, mA e W (mB0 S) T ∧ e ≤ 8 ∧ sxV e W = gV_1 (sx (bl (sT (upL L 2) 0).1 (sT (upL L 2) 1).1) (gc_txt ((sT (upL L 2) 0).2 ++ (sT (upL L 2) 1).2))) := by
  have h16 := a.1
  have v0 := mv_up a h2 0 (by decide)
  have v1 := mv_up a h2 1 (by decide)
  rw [Nat.add_zero] at v0
  rw [show L.length - 2 + 1 = L.length - 1 by omega] at v1
  obtain ⟨t1, t2, t3⟩ := sp_txt_ok (sp_1_ok v0.1)
  obtain ⟨w1, w2, w3⟩ := sp_txt_ok (sp_1_ok v1.1)
  obtain ⟨T1, e1, e2, e3, e4⟩ := m_wantText (h := h) (w := 0) v0 (by omega) (by decide) mB0_b (by decide)
  rw [bl_n] at e3
  rw [if_pos rfl] at e4
  have v1' := v1.st (e2.le fun _ _ z => mWq_st z) (by omega)
  obtain ⟨T2, q1, q2, q3, q4⟩ := m_wantText (h := h) (w := 1) v1' (by omega) (by decide) e3 t1
  have e4' : mW T2 0 (sp_txt (sp_1 (upL L 2 0))).2 := e4.X q2 fun x y z => by
    unfold mWq mWd mB at z
    unfold mWd
    omega
  have hE := bl_le t1 w1
  have e1' : f_M_wantText (some 30) (gI (L.length - 2)) (0 : Int32) (gv_ov h (mB0 S)) = _ := e1
  have q1' : f_M_wantText (some 30) (gI (L.length - 1)) (1 : Int32) (gv_ov h T1) = _ := q1
  have hW : ∀ k, k < 2 → mW T2 k ((fun k => if k = 0 then (sp_txt (sp_1 (upL L 2 0))).2 else (if (sp_txt (sp_1 (upL L 2 0))).1 = 0 then (sp_txt (sp_1 (upL L 2 1))).2 else [])) k) := fun k hk => by
    have : k = 0 ∨ k = 1 := by omega
    rcases this with rfl | rfl
    · exact e4'
    · exact q4
  have hO : ∀ k, k < 2 → okT ((fun k => if k = 0 then (sp_txt (sp_1 (upL L 2 0))).2 else (if (sp_txt (sp_1 (upL L 2 0))).1 = 0 then (sp_txt (sp_1 (upL L 2 1))).2 else [])) k) := fun k hk => by
    have : k = 0 ∨ k = 1 := by omega
    rcases this with rfl | rfl
    · exact t3
    · show okT (if (sp_txt (sp_1 (upL L 2 0))).1 = 0 then (sp_txt (sp_1 (upL L 2 1))).2 else [])
      split
      · exact w3
      · exact okT.nil
  obtain ⟨T3, j1, j2⟩ := m_join (h := h) (n := 2) (by decide) hW hO q3 hE
  have j1' : f_M_join (some 30) (2 : Int32) (gv_ov h T2) = _ := j1
  refine ⟨T3, fun K => by rw [gc_30, e1', gk_ca_some, gc_30, q1', gk_ca_some, gc_30, j1', gk_ca_some], _, _, ⟨j2.1, j2.2.1, (((e2.le fun _ _ z => mWq_st z).trans (q2.le fun _ _ z => mWq_st z)).trans j2.2.2)⟩, ?_, ?_⟩
  · exact bl_le hE ((show ∀ (p : Prop) [Decidable p], (if p then 3 else 0) ≤ 8 from fun p _ => by split <;> decide) _)
  · rw [jl_2]
    unfold sT sxV sx
    by_cases z : bl (sp_txt (sp_1 (upL L 2 0))).1 (sp_txt (sp_1 (upL L 2 1))).1 = 0
    · have z0 : (sp_txt (sp_1 (upL L 2 0))).1 = 0 := by
        unfold bl at z
        split at z
        · rename_i q
          exact q
        · exact z
      rw [z, bl_n, if_pos z0, if_pos rfl]
      unfold gc_txt
      by_cases y : ((sp_txt (sp_1 (upL L 2 0))).2 ++ (sp_txt (sp_1 (upL L 2 1))).2).length ≤ 255
      · rw [if_neg (show ¬ 255 < _ from by omega), if_pos rfl, if_pos y]
      · rw [if_pos (show 255 < _ from by omega), if_neg (by decide), if_neg y]
    · have eb : ∀ q, bl (bl (sp_txt (sp_1 (upL L 2 0))).1 (sp_txt (sp_1 (upL L 2 1))).1) q = bl (sp_txt (sp_1 (upL L 2 0))).1 (sp_txt (sp_1 (upL L 2 1))).1 := fun q => if_neg z
      rw [eb, if_neg z, if_neg z]
def isR (c : gp_C) : Prop := (∃ x, c = gc_n x) ∨ ∃ e, 1 ≤ e ∧ e ≤ 8 ∧ c = gc_e e
theorem isR.num (x : UInt64) : isR (gc_num x) := by
  unfold gc_num
  split
  · exact Or.inl ⟨x, rfl⟩
  · exact Or.inr ⟨6, by decide, by decide, rfl⟩
theorem isR.e {e : Nat} (h1 : 1 ≤ e) (h2 : e ≤ 8) : isR (gc_e e) := Or.inr ⟨e, h1, h2, rfl⟩
theorem isR.pow (x y : UInt64) : isR (sp_pow x y) := by
  unfold sp_pow
  split
  · exact isR.e (by decide) (by decide)
  · split
    · split
      · exact isR.e (by decide) (by decide)
      · exact isR.e (by decide) (by decide)
    · split
      · exact isR.e (by decide) (by decide)
      · split
        · split
          · exact isR.e (by decide) (by decide)
          · exact isR.num _
        · exact Or.inl ⟨_, rfl⟩
theorem isR.rec' (o : Nat) (x y : UInt64) : isR (sp_rec' o x y) := by
  unfold sp_rec'
  split
  · exact Or.inl ⟨_, rfl⟩
  · split
    · exact isR.num _
    · split
      · exact isR.pow x y
      · split
        · exact isR.num _
        · split
          · split
            · exact isR.e (by decide) (by decide)
            · exact isR.num _
          · split
            · exact isR.num _
            · exact isR.num _
theorem isR.le {c : gp_C} (h : isR c) : sp_err c ≤ 8 ∧ sxV (sp_err c) (gV_1 c) = gV_1 c := by
  rcases h with ⟨x, rfl⟩ | ⟨e, h1, h2, rfl⟩
  · exact ⟨Nat.zero_le _, rfl⟩
  · refine ⟨h2, ?_⟩
    show sxV e (gV_1 (gc_e e)) = _
    exact if_neg (by omega)
/-- reckoning -/
theorem mo_opN (a : mS S L) (b : mU S u) (o : Nat) (ho : o ≤ 6) (k : Nat) (hk : k = if o < 2 then 1 else 2) (h2 : k ≤ L.length) : ∃ T, (∀ K : gk_H → Option (Unit × gk_H), (gk_cv (gv_ov h (mB0 S)) (some 30) 7 (f_M_wantNumber (some 30) (gI (L.length - k)) (gv_ov h (mB0 S))) fun x6 h6 => if gI k = (2 : Int32) then (gk_cv h6 (some 30) 7 (f_M_wantNumber (some 30) (gI (L.length - 1)) h6) fun x7 h7 => ((gk_get h7 (some 30) 7 11).bind gk_asI).bind fun x1 => if x1 = 0 then (gk_cv h7 (some 30) 7 (f_M_reckon (some 30) (gI o) x6 x7 h7) fun x2 h1 => gk_cv h1 (some 30) 7 (f_M_answerNumber (some 30) x2 h1) fun _ h2 => K h2) else K h7) else (((gk_get h6 (some 30) 7 11).bind gk_asI).bind fun x1 => if x1 = 0 then (gk_cv h6 (some 30) 7 (f_M_reckon (some 30) (gI o) x6 (0x0000000000000000) h6) fun x2 h1 => gk_cv h1 (some 30) 7 (f_M_answerNumber (some 30) x2 h1) fun _ h2 => K h2) else K h6)) = K (gv_ov h T)) ∧ ∃ e W, mA e W (mB0 S) T ∧ e ≤ 8 ∧ sxV e W = gV_1 (sp_op o (upL L k)) := by
  have h16 := a.1
  have hk2 : 1 ≤ k ∧ k ≤ 2 := by rw [hk]; split <;> omega
  have v0 := mv_up a h2 0 (by omega)
  rw [Nat.add_zero] at v0
  have ok0 := sp_1_ok v0.1
  have f0 := sp_num_f ok0
  have l0 := sp_num_le ok0
  obtain ⟨T1, e1, e2, e3⟩ := m_wantNumber (h := h) v0 (by omega) mB0_b (by decide)
  rw [bl_n] at e3
  rw [if_pos rfl] at e1
  have z0 : ∀ (q : Nat), q ≤ 8 → ∀ {β : Type} (x y : β), (if gI q = (0 : Int32) then x else y) = if q = 0 then x else y := fun q hq _ x y => ite_eq x y q 0 (by omega) (by decide)
  -- the reckoned answer
  have rk : ∀ (T : gv_S) (y : UInt64), fd_f y → mX mSt (mB0 S) T → T.1 30 11 = gI 0 → ∃ T', (∀ K : gk_H → Option (Unit × gk_H), (gk_cv (gv_ov h T) (some 30) 7 (f_M_reckon (some 30) (gI o) (sp_num (sp_1 (upL L k 0))).2 y (gv_ov h T)) fun x2 h1 => gk_cv h1 (some 30) 7 (f_M_answerNumber (some 30) x2 h1) fun _ h2 => K h2) = K (gv_ov h T')) ∧ ∃ e W, mA e W (mB0 S) T' ∧ e ≤ 8 ∧ sxV e W = gV_1 (sp_rec' o (sp_num (sp_1 (upL L k 0))).2 y) := by
    intro T y hy hX hb
    obtain ⟨T2, val, k1, k2, k3⟩ := mo_reckon (h := h) f0.1 hy (fd_pc f0.1) o ho hb
    obtain ⟨hle, hsx⟩ := (isR.rec' o (sp_num (sp_1 (upL L k 0))).2 y).le
    obtain ⟨T3, m1, m2⟩ := k3.ans (h := h) (hX.trans (k2.le fun _ _ z => mQ_st (mB_q z))) hle
    exact ⟨T3, fun K => by rw [gc_30, k1, gk_ca_some, gc_30, m1, gk_ca_some], _, _, m2, hle, hsx⟩
  have hX1 : mX mSt (mB0 S) T1 := e2.le fun _ _ z => mQ_st z
  -- an error found before
  have er : ∀ (T : gv_S) (e : Nat), 1 ≤ e → e ≤ 8 → mX mSt (mB0 S) T → T.1 30 11 = gI e → ∀ c : gp_C, ∃ e' W, mA e' W (mB0 S) T ∧ e' ≤ 8 ∧ sxV e' W = gV_1 (sx e c) := fun T e h1 h8 hX hT c => ⟨e, gV_d, ⟨hT, fun q => by omega, hX⟩, h8, by
    unfold sxV sx
    rw [if_neg (by omega), if_neg (by omega)]⟩
  by_cases o2 : o < 2
  · have k1 : k = 1 := by rw [hk, if_pos o2]
    have eop : sp_op o (upL L k) = sx (sp_num (sp_1 (upL L k 0))).1 (sp_rec' o (sp_num (sp_1 (upL L k 0))).2 0) := by
      have : o = 0 ∨ o = 1 := by omega
      rcases this with rfl | rfl <;> rfl
    rw [eop]
    by_cases z : (sp_num (sp_1 (upL L k 0))).1 = 0
    · have e3' := e3
      rw [z] at e3'
      obtain ⟨T', r1, r2⟩ := rk T1 0 fd_f0 hX1 e3'
      rw [show sx (sp_num (sp_1 (upL L k 0))).1 (sp_rec' o (sp_num (sp_1 (upL L k 0))).2 0) = sp_rec' o (sp_num (sp_1 (upL L k 0))).2 0 from if_pos z]
      exact ⟨T', fun K => by rw [gc_30, e1, gk_ca_some, gI_lit 2, ite_eq _ _ _ _ (by omega) (by decide), if_neg (show ¬ k = 2 by omega), gg_30_11, e3, z0 _ l0, if_pos z, r1 K], r2⟩
    · exact ⟨T1, fun K => by rw [gc_30, e1, gk_ca_some, gI_lit 2, ite_eq _ _ _ _ (by omega) (by decide), if_neg (show ¬ k = 2 by omega), gg_30_11, e3, z0 _ l0, if_neg z], er T1 _ (by omega) l0 hX1 e3 _⟩
  · have k2 : k = 2 := by rw [hk, if_neg o2]
    have v1 := mv_up a h2 1 (by omega)
    rw [show L.length - k + 1 = L.length - 1 by omega] at v1
    have ok1 := sp_1_ok v1.1
    have f1 := sp_num_f ok1
    have l1 := sp_num_le ok1
    obtain ⟨T2, q1, q2, q3⟩ := m_wantNumber (h := h) (v1.st hX1 (by omega)) (by omega) e3 l0
    have hX2 : mX mSt (mB0 S) T2 := hX1.trans (q2.le fun _ _ z => mQ_st z)
    have hE := bl_le l0 l1
    have eop : sp_op o (upL L k) = sx (bl (sp_num (sp_1 (upL L k 0))).1 (sp_num (sp_1 (upL L k 1))).1) (sp_rec' o (sp_num (sp_1 (upL L k 0))).2 (sp_num (sp_1 (upL L k 1))).2) := by
      have : o = 2 ∨ o = 3 ∨ o = 4 ∨ o = 5 ∨ o = 6 := by omega
      rcases this with rfl | rfl | rfl | rfl | rfl <;> rfl
    rw [eop]
    by_cases z : bl (sp_num (sp_1 (upL L k 0))).1 (sp_num (sp_1 (upL L k 1))).1 = 0
    · have zz : (sp_num (sp_1 (upL L k 0))).1 = 0 := by
        unfold bl at z
        split at z
        · rename_i q
          exact q
        · exact z
      have q3' := q3
      rw [z] at q3'
      obtain ⟨T', r1, r2⟩ := rk T2 _ f1.1 hX2 q3'
      rw [show sx (bl (sp_num (sp_1 (upL L k 0))).1 (sp_num (sp_1 (upL L k 1))).1) (sp_rec' o (sp_num (sp_1 (upL L k 0))).2 (sp_num (sp_1 (upL L k 1))).2) = sp_rec' o (sp_num (sp_1 (upL L k 0))).2 (sp_num (sp_1 (upL L k 1))).2 from if_pos z]
      exact ⟨T', fun K => by rw [gc_30, e1, gk_ca_some, gI_lit 2, ite_eq _ _ _ _ (by omega) (by decide), if_pos k2, gc_30, q1, gk_ca_some, gg_30_11, q3, z0 _ hE, if_pos z, if_pos zz, r1 K], r2⟩
    · exact ⟨T2, fun K => by rw [gc_30, e1, gk_ca_some, gI_lit 2, ite_eq _ _ _ _ (by omega) (by decide), if_pos k2, gc_30, q1, gk_ca_some, gg_30_11, q3, z0 _ hE, if_neg z], er T2 _ (by omega) hE hX2 q3 _⟩
end MO2
