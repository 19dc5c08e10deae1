/-! THE PURE PART: the reference's operators -/
theorem fd_pc {x : UInt64} (hx : fd_f x) : fd_f (FP.ddiv x 0x4059000000000000) := by
  have h1 := (FP.Core.fin_bits x).mp hx
  have h2 := FP.Core.ddiv_mag (a := x) (b := 0x4059000000000000) (K := 2047) (L := 1029) h1 (by decide) (by decide) (by decide) (by decide)
  have h3 : (FP.ddiv x 0x4059000000000000).toNat % 2 ^ 63 < (2047 + (1074 - 52 - 1) - 1029 + 3) * 2 ^ 52 := h2
  exact (FP.Core.fin_bits _).mpr (by omega)
/-- a call begun: code 0, nothing bad -/
def mB0 (S : gv_S) : gv_S := gv_uI (gv_uI S 30 0 (gI 0)) 30 11 (gI 0)
section MOP
variable {h : gk_H} {S : gv_S} {L : List gp_V} {u : List Nat} {V : gp_V} {f : Nat}
theorem mB0_s (a : mS S L) : mS (mB0 S) L := (a.code 0).X (mX.I (P := fun x y => x = 30 ∧ y = 11) _ ⟨rfl, rfl⟩) fun x y w => ⟨by omega, fun m _ w2 => by unfold mVl at w2; omega⟩
theorem mB0_b : (mB0 S).1 30 11 = gI 0 := gu_I2 _ _ _ _
theorem mB0_u (b : mU S u) : mU (mB0 S) u := (b.code 0).X (mX.I (P := fun x y => x = 30 ∧ y = 11) _ ⟨rfl, rfl⟩) fun x y w => by omega
theorem mB0_fr : mFr S (mB0 S) := ((m_code 0).fr fun x y z => by obtain ⟨z1, z2⟩ := z; omega).trans ((mX.I (P := fun x y => x = 30 ∧ y = 11) _ ⟨rfl, rfl⟩ : mX _ _ (mB0 S)).fr fun x y z => by omega)
theorem mSt_fr {a b : Nat} (z : mSt a b) : 30 ≤ a ∧ a ≤ 41 := by
  unfold mSt at z
  omega
/-- the call's end, all together -/
theorem mo_end {e k : Nat} {T : gv_S} (a : mS S L) (b : mU S u) (hk : k ≤ L.length) (hr : L.length - k < 16) (hA : mA e V (mB0 S) T) (he : e ≤ 8) : ∃ S', f_M_finish (some 30) (gI k) (gv_ov h T) = some ((), gv_ov h S') ∧ mO S S' 0 (L.take (L.length - k) ++ [sxV e V]) u := by
  obtain ⟨S', e1, e2, e3, e4, e5, e6⟩ := m_finish (h := h) (mB0_s a) hA he hk hr
  have hX := hA.2.2
  have n0 : ¬ mSt 30 0 := fun z => by unfold mSt at z; omega
  have n1 : ¬ mSt 30 1 := fun z => by unfold mSt at z; omega
  have n31 : ∀ k, ¬ mSt 31 k := fun k z => by unfold mSt at z; omega
  have bu := mB0_u b
  refine ⟨S', e1, ?_, e2, ⟨bu.1, bu.2.1, ?_, fun j hj => ?_⟩, (mB0_fr.trans (hX.fr fun x y z => mSt_fr z)).trans e6⟩
  · rw [e3, hX.i n0]
    show (gv_uI (gv_uI S 30 0 (gI 0)) 30 11 (gI 0)).1 30 0 = gI 0
    rw [gu_I1 _ _ _ _ _ _ (by omega)]
    exact gu_I2 _ _ _ _
  · rw [e4, hX.i n1]
    exact bu.2.2.1
  · rw [e5, hX.i (n31 j)]
    exact bu.2.2.2 j hj
/-- the arguments at their slots -/
theorem mv_up {k : Nat} (a : mS S L) (hk : k ≤ L.length) : ∀ m, m < k → mv (mB0 S) (L.length - k + m) (upL L k m) := fun m hm => (mB0_s a).2.2 (L.length - k + m) (by omega)
theorem mQ_fr {a b : Nat} (z : mQ a b) : mSt a b := mQ_st z
/-- comparing operators -/
theorem mo_op8 (a : mS S L) (b : mU S u) (h2 : 2 ≤ L.length) (o : Nat) (ho : 8 ≤ o) (ho2 : o ≤ 13) : ∃ T, (∀ K : gk_H → Option (Unit × gk_H), (gk_cv (gv_ov h (mB0 S)) (some 30) 7 (f_M_wantAny (some 30) (gI (L.length - 2)) (gv_ov h (mB0 S))) fun x8 h8 => gk_cv h8 (some 30) 7 (f_M_wantAny (some 30) (gI (L.length - 1)) h8) fun x9 h9 => ((gk_get h9 (some 30) 7 11).bind gk_asI).bind fun x10 => if x10 = 0 then (gk_cv h9 (some 30) 7 (f_M_compareCells (some 30) x8 x9 h9) fun x1 h1 => gk_ca (f_M_stands (gI (o - 8)) x1 h1) fun x2 h2 => gk_cv h2 (some 30) 7 (f_M_answerTruth (some 30) x2 h2) fun _ h3 => K h3) else K h9) = K (gv_ov h T)) ∧ mA (bl (sp_err (sp_1 (upL L 2 0))) (sp_err (sp_1 (upL L 2 1)))) (gV_1 (gc_b (sp_std o (sp_ord (sp_1 (upL L 2 0)) (sp_1 (upL L 2 1)))))) (mB0 S) T := by
  have h16 := a.1
  have v0 := mv_up a h2 0 (by decide)
  have v1 := mv_up a h2 1 (by decide)
  rw [Nat.add_zero] at v0
  rw [show L.length - 2 + 1 = L.length - 1 by omega] at v1
  have le0 := sp_err_le (sp_1_ok v0.1)
  have le1 := sp_err_le (sp_1_ok v1.1)
  obtain ⟨T1, e1, e2, e3⟩ := m_wantAny (h := h) v0 (by omega) mB0_b (by decide)
  rw [bl_n] at e3
  have v1' := v1.st (e2.le fun _ _ z => mQ_st z) (by omega)
  obtain ⟨T2, q1, q2, q3⟩ := m_wantAny (h := h) v1' (by omega) e3 le0
  have hle := bl_le le0 le1
  have z0 : ∀ (q : Nat), q ≤ 8 → ∀ {β : Type} (x y : β), (if gI q = (0 : Int32) then x else y) = if q = 0 then x else y := fun q hq _ x y => ite_eq x y q 0 (by omega) (by decide)
  have hX : mX mSt (mB0 S) T2 := (e2.trans q2).le fun _ _ z => mQ_st z
  by_cases z : bl (sp_err (sp_1 (upL L 2 0))) (sp_err (sp_1 (upL L 2 1))) = 0
  · have zz : sp_err (sp_1 (upL L 2 0)) = 0 ∧ sp_err (sp_1 (upL L 2 1)) = 0 := by
      unfold bl at z
      split at z
      · rename_i q
        exact ⟨q, z⟩
      · rename_i q
        exact absurd z q
    have one : ∀ W : gp_V, gp_okV W → sp_err (sp_1 W) = 0 → W.2.1 * W.2.2.1 = 1 ∧ (sp_1 W).1 ≠ 4 := fun W hW hE => by
      have k1 : W.2.1 * W.2.2.1 = 1 := by
        by_cases y : W.2.1 * W.2.2.1 = 1
        · exact y
        · rw [show sp_1 W = gc_e 3 from if_neg y] at hE
          cases hE
      refine ⟨k1, fun y => ?_⟩
      have hok := sp_1_ok hW
      unfold sp_err at hE
      rw [if_pos y] at hE
      have := hok.2.2.2.2.2.1 y
      omega
    obtain ⟨o1, o2⟩ := one _ v0.1 zz.1
    obtain ⟨o3, o4⟩ := one _ v1.1 zz.2
    obtain ⟨c0, k0⟩ := (v0.st hX (by omega)).c0 o1
    obtain ⟨c1, k1⟩ := (v1.st hX (by omega)).c0 o3
    obtain ⟨T3, t1, t2, t3, t4⟩ := m_ansT (h := h) (sp_std o (sp_ord (sp_1 (upL L 2 0)) (sp_1 (upL L 2 1)))) q3
    exact ⟨T3, fun K => by rw [gc_30, e1, gk_ca_some, gc_30, q1, gk_ca_some, gg_30_11, q3, z0 _ hle, if_pos z, gc_30, mc_cmp c0 c1 k0 k1 (by omega) (by omega) o2 o4, gk_ca_some, mo_stands o ho ho2, gk_ca_some, gc_30, t1, gk_ca_some], t4, fun _ => t3, hX.trans (t2.le fun _ _ w => mSet_st w)⟩
  · exact ⟨T2, fun K => by rw [gc_30, e1, gk_ca_some, gc_30, q1, gk_ca_some, gg_30_11, q3, z0 _ hle, if_neg z], q3, fun w => absurd w z, hX⟩
end MOP
