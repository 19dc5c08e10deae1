/-! THE PURE PART: the reference's parts (56 to 59, 65, 67) -/
theorem pt_lp {l : List Nat} {x y m : Int} (hx : 0 ≤ x) (hy : min y (l.length : Int) = min (x + m) (l.length : Int) ∨ (min y (l.length : Int) ≤ x ∧ x + m ≤ x)) : lp l x m = pt l x y := by
  unfold lp pt
  by_cases z : (l.length : Int) ≤ x
  · have e1 : l.drop x.toNat = [] := List.drop_of_length_le (by omega)
    have e2 : l.drop (max 0 (min x (l.length : Int))).toNat = [] := List.drop_of_length_le (by omega)
    rw [e1, e2, List.take_nil, List.take_nil]
  · rw [show (max 0 (min x (l.length : Int))).toNat = x.toNat by omega]
    congr 1
    omega
theorem lp_ok {l : List Nat} (ok : okT l) (x m : Int) : okT (lp l x m) := ok.sub _ _
theorem gc_txt_ok {l : List Nat} (h : l.length ≤ 255) : gc_txt l = gc_t l := if_pos h
theorem ine0 (n : Nat) (hn : n < 2147483648) {β : Sort _} (X Y : β) : (if gI n = (0 : Int32) then X else Y) = if n = 0 then X else Y := ite_eq X Y n 0 hn (by decide)
theorem inl0 (n : Nat) (hn : n < 2147483648) {β : Sort _} (X Y : β) : (if gI n ≤ (0 : Int32) then X else Y) = if n ≤ 0 then X else Y := ite_le X Y n 0 hn (by decide)
section G40
variable {β : Type} {h : gk_H} {S : gv_S}
theorem ga_40z (K : Int32 → Option β) : ((gk_ald (gv_ov h S) (some 40) 1 (0 : Int32)).bind gk_asI).bind K = K (S.1 40 0) := ga_40 (n := 0) (by decide) K
theorem ga_40o (K : Int32 → Option β) : ((gk_ald (gv_ov h S) (some 40) 1 (1 : Int32)).bind gk_asI).bind K = K (S.1 40 1) := ga_40 (n := 1) (by decide) K
theorem ga_40t (K : Int32 → Option β) : ((gk_ald (gv_ov h S) (some 40) 1 (2 : Int32)).bind gk_asI).bind K = K (S.1 40 2) := ga_40 (n := 2) (by decide) K
end G40
section MPA
variable {h : gk_H} {S S0 S1 T : gv_S} {a n f : Nat} {vs : Nat → gp_V} {l L : List Nat} {w : Nat}
/-- a text wanted, into a word -/
theorem m_txtT {k w f : Nat} (g : mG S a vs n) (hk : k < n) (hw : w < 9) (hb : S.1 30 11 = gI f) (hf : f ≤ 8) : ∃ S', f_M_wantText (some 30) (gI (a + k)) (gI w) (gv_ov h S) = some ((), gv_ov h S') ∧ mX (mWq w) S S' ∧ S'.1 30 11 = gI (bl f (sT vs k).1) ∧ mW S' w (if f = 0 then (sT vs k).2 else []) := m_wantText (h := h) (g.2 k hk) (by have := g.1; omega) hw hb hf
theorem mG.sT (g : mG S a vs n) {k : Nat} (hk : k < n) : (sT vs k).1 ≤ 8 ∧ (sT vs k).2.length ≤ 255 ∧ okT (sT vs k).2 := sp_txt_ok (sp_1_ok (g.ok hk))
theorem mW.q {S' : gv_S} (a : mW S w l) (q : mX mQ S S') : mW S' w l := a.X q fun x y z => by
  unfold mQ at z
  unfold mWd
  omega
theorem mW.wq {S' : gv_S} {o : Nat} (a : mW S w l) (q : mX (mWq o) S S') (ho : o ≠ w) (ho9 : o < 9) (hw : w < 9) : mW S' w l := a.X q fun x y z => by
  unfold mWq mWd mB at z
  unfold mWd
  omega
theorem m_addPart0 (hW : mW T 0 l) (ok : okT l) (hB : mBd T L) (x y : Int) (hx0 : 0 ≤ x) (hx1 : x < 36028797018963968) (hy1 : -9007199254740992 ≤ y) (hy2 : y < 36028797018963968) : ∃ T', f_M_addPart (some 30) (0 : Int32) (gJ x) (gJ y) (gv_ov h T) = some ((), gv_ov h T') ∧ mX mAb T T' ∧ mBd T' (L ++ pt l x y) := m_addPart (w := 0) (by decide) hW ok hB x y hx0 hx1 hy1 hy2
theorem m_addPart1 (hW : mW T 1 l) (ok : okT l) (hB : mBd T L) (x y : Int) (hx0 : 0 ≤ x) (hx1 : x < 36028797018963968) (hy1 : -9007199254740992 ≤ y) (hy2 : y < 36028797018963968) : ∃ T', f_M_addPart (some 30) (1 : Int32) (gJ x) (gJ y) (gv_ov h T) = some ((), gv_ov h T') ∧ mX mAb T T' ∧ mBd T' (L ++ pt l x y) := m_addPart (w := 1) (by decide) hW ok hB x y hx0 hx1 hy1 hy2
theorem m_addPart2 (hW : mW T 2 l) (ok : okT l) (hB : mBd T L) (x y : Int) (hx0 : 0 ≤ x) (hx1 : x < 36028797018963968) (hy1 : -9007199254740992 ≤ y) (hy2 : y < 36028797018963968) : ∃ T', f_M_addPart (some 30) (2 : Int32) (gJ x) (gJ y) (gv_ov h T) = some ((), gv_ov h T') ∧ mX mAb T T' ∧ mBd T' (L ++ pt l x y) := m_addPart (w := 2) (by decide) hW ok hB x y hx0 hx1 hy1 hy2
/-- the loop of 65 -/
theorem mpa_294 (ok : okT l) (hl1 : 1 ≤ l.length) (i : Int) (hi0 : 0 ≤ i) (hi1 : i < 9007199254740992) : ∀ (r fu k : Nat) (T : gv_S), (i - (k : Int)).toNat ≤ r ∨ 256 ≤ k + r → k ≤ 256 → r + 1 < fu → mW T 0 l → mBd T (sp_rpt l k) → ∃ T' j, f_M_parts_b294 fu (some 30) (gJ i) (gI l.length) (gJ (k : Int)) (gv_ov h T) = some ((), gv_ov h T') ∧ mX mAb T T' ∧ mBd T' (sp_rpt l j) ∧ (((j : Int) = i ∨ (i < (k : Int) ∧ j = k)) ∨ (255 < (sp_rpt l j).length ∧ k ≤ j ∧ (j : Int) ≤ max i (k : Int))) := by
  intro r
  have b332 : ∀ h : gk_H, f_M_parts_b332 h = some ((), h) := fun _ => rfl
  induction r with
  | zero =>
    intro fu k T hr hk hf hW hB
    obtain ⟨fu, rfl⟩ : ∃ f, fu = f + 1 := ⟨fu - 1, by omega⟩
    have hl := hW.1
    have hlen := (sp_rpt_b ok k).1
    rw [f_M_parts_b294]
    dsimp only
    rw [jte_ge _ _ _ _ (by omega) (by omega) (by omega) (by omega)]
    by_cases z : i ≤ (k : Int)
    · rw [if_pos z, b332]
      refine ⟨T, k, rfl, mX.refl _ _, hB, Or.inl ?_⟩
      omega
    · have hk256 : k = 256 := by omega
      have hlong : 255 < (sp_rpt l k).length := by
        rw [hlen, hk256]
        have := Nat.mul_le_mul_left 256 hl1
        omega
      have hb : T.1 30 11 = gI 3 := by
        have := hB.2
        rw [if_neg (by omega)] at this
        exact this
      rw [if_neg z, inl0 _ (by omega), if_neg (by omega), gg_30_11, hb, ite0 3 (by decide), if_neg (show ¬ (3 = 0) by decide), b332]
      exact ⟨T, k, rfl, mX.refl _ _, hB, Or.inr ⟨hlong, Nat.le_refl _, by omega⟩⟩
  | succ r ih =>
    intro fu k T hr hk hf hW hB
    obtain ⟨fu, rfl⟩ : ∃ f, fu = f + 1 := ⟨fu - 1, by omega⟩
    have hl := hW.1
    rw [f_M_parts_b294]
    dsimp only
    rw [jte_ge _ _ _ _ (by omega) (by omega) (by omega) (by omega)]
    by_cases z : i ≤ (k : Int)
    · rw [if_pos z, b332]
      refine ⟨T, k, rfl, mX.refl _ _, hB, Or.inl ?_⟩
      omega
    · rw [if_neg z, inl0 _ (by omega), if_neg (by omega), gg_30_11]
      by_cases zl : (sp_rpt l k).length ≤ 255
      · have hb : T.1 30 11 = gI 0 := by
          have := hB.2
          rw [if_pos zl] at this
          exact this.1
        have hkl : k < 256 := by
          have hlen := (sp_rpt_b ok k).1
          have := Nat.mul_le_mul_left k hl1
          omega
        obtain ⟨T1, e1, e2, e3⟩ := m_addPart0 (h := h) hW ok hB 0 (l.length : Int) (by decide) (by decide) (by omega) (by omega)
        have ep : pt l 0 (l.length : Int) = l := by
          unfold pt
          rw [show (min (l.length : Int) (l.length : Int) - 0).toNat = l.length by omega]
          exact List.take_length
        rw [ep] at e3
        have e3' : mBd T1 (sp_rpt l (k + 1)) := e3
        obtain ⟨T2, j, q1, q2, q3, q4⟩ := ih fu (k + 1) T1 (by omega) (by omega) (by omega) (hW.ab e2) e3'
        have e1' : f_M_addPart (some 30) (0 : Int32) (0 : Int64) (gJ (l.length : Int)) (gv_ov h T) = _ := e1
        rw [hb, ite0 0 (by decide), if_pos rfl, i2l_255 (by omega), gc_30, e1', gk_ca_some, gk_let_eq, show gJ (k : Int) + (1 : Int64) = gJ ((k + 1 : Nat) : Int) from gJ_add _ 1, q1]
        refine ⟨T2, j, rfl, e2.trans q2, q3, ?_⟩
        rcases q4 with (y | y) | y
        · exact Or.inl (Or.inl y)
        · exact absurd y.1 (by omega)
        · exact Or.inr ⟨y.1, by omega, by omega⟩
      · have hb : T.1 30 11 = gI 3 := by
          have := hB.2
          rw [if_neg zl] at this
          exact this
        rw [hb, ite0 3 (by decide), if_neg (show ¬ (3 = 0) by decide), b332]
        exact ⟨T, k, rfl, mX.refl _ _, hB, Or.inr ⟨by omega, Nat.le_refl _, by omega⟩⟩
theorem wo_56 (vs : Nat → gp_V) (n : Nat) : sp_wo 56 vs n = sx (sT vs 0).1 (gc_n (FP.i2d (gI (sT vs 0).2.length))) := by
  unfold sp_wo
  rw [if_pos (by decide)]
theorem wo_57 (f : Nat) (hf : f = 57 ∨ f = 58) (vs : Nat → gp_V) (n : Nat) : sp_wo f vs n = sx (bl (sT vs 0).1 (oW vs n 1)) (if oX vs n 1 < 0 then gc_e 3 else gc_txt (lp (sT vs 0).2 (if f = 57 then 0 else max 0 ((sT vs 0).2.length - oX vs n 1)) (oX vs n 1))) := by
  unfold sp_wo
  rw [if_neg (by omega), if_pos hf]
theorem wo_59 (vs : Nat → gp_V) (n : Nat) : sp_wo 59 vs n = sx (bl (bl (sT vs 0).1 (sW vs 1)) (sW vs 2)) (if sw_x vs 1 < 1 ∨ sw_x vs 2 < 0 then gc_e 3 else gc_txt (lp (sT vs 0).2 (sw_x vs 1 - 1) (sw_x vs 2))) := by
  unfold sp_wo
  rw [if_neg (by decide), if_neg (by decide), if_pos (by decide)]
theorem wo_65 (vs : Nat → gp_V) (n : Nat) : sp_wo 65 vs n = sx (bl (sT vs 0).1 (sW vs 1)) (if sw_x vs 1 < 0 ∨ 255 < ((sT vs 0).2.length : Int) * sw_x vs 1 then gc_e 3 else gc_txt (sp_rpt (sT vs 0).2 (min (sw_x vs 1) 255).toNat)) := by
  unfold sp_wo
  rw [if_neg (by decide), if_neg (by decide), if_neg (by decide), if_neg (by decide), if_neg (by decide), if_neg (by decide), if_pos (by decide)]
theorem wo_67 (vs : Nat → gp_V) (n : Nat) : sp_wo 67 vs n = sx (bl (bl (bl (sT vs 0).1 (sW vs 1)) (sW vs 2)) (sT vs 3).1) (if sw_x vs 1 < 1 ∨ sw_x vs 2 < 0 then gc_e 3 else gc_txt (lp (sT vs 0).2 0 (sw_x vs 1 - 1) ++ (sT vs 3).2 ++ lp (sT vs 0).2 (sw_x vs 1 - 1 + sw_x vs 2) (sT vs 0).2.length)) := by
  unfold sp_wo
  rw [if_neg (by decide), if_neg (by decide), if_neg (by decide), if_neg (by decide), if_neg (by decide), if_neg (by decide), if_neg (by decide), if_neg (by decide), if_pos (by decide)]
/-- what functions 57, 58, 59, 65, 67 make of a text, two whole numbers, a text -/
def sp_prt (f : Nat) (l t : List Nat) (i j : Int) : gp_C :=
  if f = 57 ∨ f = 58 then (if i < 0 then gc_e 3 else gc_txt (lp l (if f = 57 then 0 else max 0 (l.length - i)) i))
  else if f = 59 then (if i < 1 ∨ j < 0 then gc_e 3 else gc_txt (lp l (i - 1) j))
  else if f = 65 then (if i < 0 ∨ 255 < (l.length : Int) * i then gc_e 3 else gc_txt (sp_rpt l (min i 255).toNat))
  else (if i < 1 ∨ j < 0 then gc_e 3 else gc_txt (lp l 0 (i - 1) ++ t ++ lp l (i - 1 + j) l.length))
theorem mpa_135 (hf : f = 57 ∨ f = 58 ∨ f = 59 ∨ f = 65 ∨ f = 67) {t : List Nat} (ok : okT l) (okt : okT t) (q : mX mSt S0 S) (hb : S.1 30 11 = gI 0) (hW : mW S 0 l) (hW1 : f = 67 → mW S 1 t) (i j : Int) (hi1 : -9007199254740992 < i) (hi2 : i < 9007199254740992) (hj1 : -9007199254740992 < j) (hj2 : j < 9007199254740992) (hi : if f = 59 ∨ f = 67 then 1 ≤ i ∧ 0 ≤ j else 0 ≤ i) : mF h S0 (f_M_parts_b135 (some 30) (gI f) (gJ i) (gJ j) (gv_ov h S)) (gV_1 (sp_prt f l t i j)) := by
  obtain ⟨T, s1, s2, s3⟩ := mBd.nil (h := h) hb
  have qT : mX mSt S0 T := q.trans (s2.le fun _ _ z => mSet_st z)
  have hWT := hW.set s2
  have hl := hW.1
  have b373 : ∀ h : gk_H, f_M_parts_b373 h = some ((), h) := fun _ => rfl
  have fin : ∀ (T' : gv_S) (M : List Nat), mX mAb T T' → mBd T' M → mF h S0 (some ((), gv_ov h T')) (gV_1 (gc_txt M)) := fun T' M q1 hB => hB.F (qT.trans (q1.le fun _ _ z => mAb_st z))
  have qf : ∀ (m : Nat), m < 1000 → (gI f = gI m) = (f = m) := fun m hm => gI_eq f m (by omega) (by omega)
  have q57 := qf 57 (by decide)
  have q58 := qf 58 (by decide)
  have q59 := qf 59 (by decide)
  have q60 := qf 60 (by decide)
  have q61 := qf 61 (by decide)
  have q62 := qf 62 (by decide)
  have q63 := qf 63 (by decide)
  have q64 := qf 64 (by decide)
  have q65 := qf 65 (by decide)
  unfold f_M_parts_b135
  rw [gg_30_11, hb, itl0 0 (by decide), if_pos rfl, gc_30, s1, gk_ca_some, gr_30_14, ga_40z, hWT.2.2.1]
  have ei : Int32.toInt64 (gI l.length) = gJ (l.length : Int) := i2l_255 (by omega)
  have c0 : (0 : Int64) = gJ 0 := rfl
  rcases hf with rfl | rfl | rfl | rfl | rfl
  · rw [if_neg (by decide)] at hi
    obtain ⟨T1, e1, e2, e3⟩ := m_addPart0 (h := h) hWT ok s3 0 i (by decide) (by decide) (by omega) (by omega)
    rw [if_pos (show gI 57 = (57 : Int32) from rfl), c0, gc_30, e1, gk_ca_some, b373]
    have es : sp_prt 57 l t i j = gc_txt (lp l 0 i) := by
      unfold sp_prt
      rw [if_pos (Or.inl rfl), if_neg (by omega), if_pos rfl]
    rw [es, pt_lp (y := i) (by decide) (by omega)]
    exact fin T1 _ e2 e3
  · rw [if_neg (by decide)] at hi
    rw [if_neg (show ¬ gI 58 = (57 : Int32) by decide), if_pos (show gI 58 = (58 : Int32) from rfl), ei, jte_ge _ _ _ _ (by omega) (by omega) (by omega) (by omega)]
    have es : sp_prt 58 l t i j = gc_txt (lp l (max 0 (l.length - i)) i) := by
      unfold sp_prt
      rw [if_pos (Or.inr rfl), if_neg (by omega), if_neg (by decide)]
    rw [es]
    unfold f_M_parts_b244
    rw [ei]
    by_cases z : (l.length : Int) ≤ i
    · obtain ⟨T1, e1, e2, e3⟩ := m_addPart0 (h := h) hWT ok s3 0 (l.length : Int) (by decide) (by decide) (by omega) (by omega)
      rw [if_pos z, c0, gc_30, e1, gk_ca_some, b373, show max 0 ((l.length : Int) - i) = 0 by omega, pt_lp (y := (l.length : Int)) (by decide) (by omega)]
      exact fin T1 _ e2 e3
    · obtain ⟨T1, e1, e2, e3⟩ := m_addPart0 (h := h) hWT ok s3 ((l.length : Int) - i) (l.length : Int) (by omega) (by omega) (by omega) (by omega)
      rw [if_neg z, gJ_sub, gc_30, e1, gk_ca_some, b373, show max 0 ((l.length : Int) - i) = (l.length : Int) - i by omega, pt_lp (y := (l.length : Int)) (by omega) (by omega)]
      exact fin T1 _ e2 e3
  · rw [if_pos (by decide)] at hi
    obtain ⟨T1, e1, e2, e3⟩ := m_addPart0 (h := h) hWT ok s3 (i - 1) (i - 1 + j) (by omega) (by omega) (by omega) (by omega)
    rw [if_neg (show ¬ gI 59 = (57 : Int32) by decide), if_neg (show ¬ gI 59 = (58 : Int32) by decide), if_pos (show gI 59 = (59 : Int32) from rfl), show gJ i - (1 : Int64) = gJ (i - 1) from gJ_sub i 1, gJ_add, gc_30, e1, gk_ca_some, b373]
    have es : sp_prt 59 l t i j = gc_txt (lp l (i - 1) j) := by
      unfold sp_prt
      rw [if_neg (by decide), if_pos rfl, if_neg (by omega)]
    rw [es, pt_lp (y := i - 1 + j) (by omega) (Or.inl rfl)]
    exact fin T1 _ e2 e3
  · rw [if_neg (by decide)] at hi
    have es : sp_prt 65 l t i j = if 255 < (l.length : Int) * i then gc_e 3 else gc_txt (sp_rpt l (min i 255).toNat) := by
      unfold sp_prt
      rw [if_neg (by decide), if_neg (by decide), if_pos rfl]
      by_cases y : 255 < (l.length : Int) * i
      · rw [if_pos (Or.inr y), if_pos y]
      · rw [if_neg (by omega), if_neg y]
    rw [if_neg (show ¬ gI 65 = (57 : Int32) by decide), if_neg (show ¬ gI 65 = (58 : Int32) by decide), if_neg (show ¬ gI 65 = (59 : Int32) by decide), if_neg (show ¬ gI 65 = (60 : Int32) by decide), if_neg (show ¬ gI 65 = (61 : Int32) by decide), if_neg (show ¬ gI 65 = (62 : Int32) by decide), if_neg (show ¬ gI 65 = (63 : Int32) by decide), if_neg (show ¬ gI 65 = (64 : Int32) by decide), if_pos (show gI 65 = (65 : Int32) from rfl), es, inl0 _ (by omega), show (255 : Int64) = gJ 255 from rfl, jte_le _ _ _ _ (by omega) (by omega) (by decide) (by decide)]
    unfold f_M_parts_b291
    by_cases zl : l.length ≤ 0
    · have e0 : l = [] := List.length_eq_zero_iff.mp (by omega)
      have er : ∀ k, sp_rpt l k = [] := fun k => by
        rw [e0]
        induction k with
        | zero => rfl
        | succ k ih => show sp_rpt [] k ++ [] = []; rw [ih]; rfl
      have e294 : f_M_parts_b294 (999999 + 1) (some 30) (gJ i) (gI l.length) (gJ 0) (gv_ov h T) = some ((), gv_ov h T) := by
        rw [f_M_parts_b294]
        dsimp only
        rw [inl0 _ (by omega), if_pos zl, ite_self]
        rfl
      have e294' : f_M_parts_b294 gk_F (some 30) (gJ i) (gI l.length) (0 : Int64) (gv_ov h T) = _ := e294
      have em : ¬ 255 < (l.length : Int) * i := by
        rw [show (l.length : Int) = 0 by omega, Int.zero_mul]
        decide
      rw [if_pos zl, e294', if_neg em, er]
      exact fin T [] (mX.refl _ _) s3
    · rw [if_neg zl]
      by_cases zi : i ≤ 255
      · obtain ⟨T1, j', q1, q2, q3, q4⟩ := mpa_294 (h := h) ok (by omega) i hi hi2 256 gk_F 0 T (by omega) (by decide) (by unfold gk_F; omega) hWT s3
        have q1' : f_M_parts_b294 gk_F (some 30) (gJ i) (gI l.length) (0 : Int64) (gv_ov h T) = _ := q1
        have hlen := (sp_rpt_b ok j').1
        rw [if_pos zi, q1']
        have hF := fin T1 _ q2 q3
        obtain ⟨m, hm⟩ : ∃ m : Nat, i = (m : Int) := ⟨i.toNat, by omega⟩
        have elen := (sp_rpt_b ok m).1
        have ecast : (l.length : Int) * i = ((m * l.length : Nat) : Int) := by rw [hm, Nat.mul_comm]; rfl
        have et : gc_txt (sp_rpt l j') = if 255 < (l.length : Int) * i then gc_e 3 else gc_txt (sp_rpt l (min i 255).toNat) := by
          rcases q4 with (y | y) | y
          · have ej : j' = m := by omega
            rw [ej]
            by_cases z : 255 < (l.length : Int) * i
            · rw [if_pos z]
              unfold gc_txt
              rw [if_neg (by omega)]
            · rw [if_neg z, show (min i 255).toNat = m by omega]
          · omega
          · have hjm : j' ≤ m := by omega
            have := Nat.mul_le_mul_right l.length hjm
            rw [if_pos (by omega)]
            unfold gc_txt
            rw [if_neg (by omega)]
        rw [et] at hF
        exact hF
      · have hb0 : T.1 30 11 = gI 0 := by
          have := s3.2
          rw [if_pos (by decide)] at this
          exact this.1
        have h255 : 255 < (l.length : Int) * i := by
          have h1 : (1 : Int) * 256 ≤ (l.length : Int) * i := Int.mul_le_mul (by omega) (by omega) (by decide) (by omega)
          omega
        have e294 : f_M_parts_b294 (999999 + 1) (some 30) (gJ i) (gI l.length) (gJ 0) (gv_ov h (gv_uI T 30 11 (gI 3))) = some ((), gv_ov h (gv_uI T 30 11 (gI 3))) := by
          rw [f_M_parts_b294]
          dsimp only
          rw [jte_ge _ _ _ _ (by decide) (by decide) (by omega) (by omega), if_neg (by omega), inl0 _ (by omega), if_neg zl, gg_30_11, gu11, ite0 3 (by decide), if_neg (show ¬ (3 = 0) by decide)]
          rfl
        have e294' : f_M_parts_b294 gk_F (some 30) (gJ i) (gI l.length) (0 : Int64) (gv_ov h (gv_uI T 30 11 (gI 3))) = _ := e294
        rw [if_neg zi, gc_30, gI_lit 3, m_fail 0 3 hb0 (by decide), gk_ca_some, bl_n, e294', if_pos h255]
        exact mF.err (qT.trans (mX.I _ (mB_st ⟨rfl, rfl⟩))) (gu11 3) (by decide) (by decide)
  · rw [if_pos (by decide)] at hi
    have hW1T := (hW1 rfl).set s2
    have htl := hW1T.1
    obtain ⟨T1, e1, e2, e3⟩ := m_addPart0 (h := h) hWT ok s3 0 (i - 1) (by decide) (by decide) (by omega) (by omega)
    obtain ⟨T2, p1, p2, p3⟩ := m_addPart1 (h := h) (hW1T.ab e2) okt e3 0 (t.length : Int) (by decide) (by decide) (by omega) (by omega)
    obtain ⟨T3, r1, r2, r3⟩ := m_addPart0 (h := h) (hWT.ab (e2.trans p2)) ok p3 (i - 1 + j) (l.length : Int) (by omega) (by omega) (by omega) (by omega)
    have ep : pt t 0 (t.length : Int) = t := by
      unfold pt
      rw [show (min (t.length : Int) (t.length : Int) - 0).toNat = t.length by omega]
      exact List.take_length
    rw [if_neg (show ¬ gI 67 = (57 : Int32) by decide), if_neg (show ¬ gI 67 = (58 : Int32) by decide), if_neg (show ¬ gI 67 = (59 : Int32) by decide), if_neg (show ¬ gI 67 = (60 : Int32) by decide), if_neg (show ¬ gI 67 = (61 : Int32) by decide), if_neg (show ¬ gI 67 = (62 : Int32) by decide), if_neg (show ¬ gI 67 = (63 : Int32) by decide), if_neg (show ¬ gI 67 = (64 : Int32) by decide), if_neg (show ¬ gI 67 = (65 : Int32) by decide)]
    unfold f_M_parts_b335
    rw [show gJ i - (1 : Int64) = gJ (i - 1) from gJ_sub i 1, c0, gc_30, e1, gk_ca_some, gr_30_14, ga_40o, (hW1T.ab e2).2.2.1, i2l_255 (by omega), gc_30, p1, gk_ca_some, gJ_add, ei, gc_30, r1, gk_ca_some, b373]
    have es : sp_prt 67 l t i j = gc_txt (lp l 0 (i - 1) ++ t ++ lp l (i - 1 + j) l.length) := by
      unfold sp_prt
      rw [if_neg (by decide), if_neg (by decide), if_neg (by decide), if_neg (by omega)]
    have hF := fin T3 _ ((e2.trans p2).trans r2) r3
    rw [es, pt_lp (x := 0) (y := i - 1) (by decide) (by omega), pt_lp (x := i - 1 + j) (y := (l.length : Int)) (by omega) (by omega)]
    rw [ep] at hF
    exact hF
/-- functions 57, 58, 59, 65, 67 behind their wants -/
theorem mpa_75 (hf : f = 57 ∨ f = 58 ∨ f = 59 ∨ f = 65 ∨ f = 67) {t : List Nat} (ok : okT l) (okt : okT t) {e : Nat} (he : e ≤ 8) (q : mX mSt S0 S) (hb : S.1 30 11 = gI e) (hW : e = 0 → mW S 0 l) (hW1 : e = 0 → f = 67 → mW S 1 t) (i j : Int) (hi1 : -9007199254740992 < i) (hi2 : i < 9007199254740992) (hj1 : -9007199254740992 < j) (hj2 : j < 9007199254740992) : mF h S0 (f_M_parts_b75 (some 30) (gI f) (gJ i) (gJ j) (gv_ov h S)) (gV_1 (sx e (sp_prt f l t i j))) := by
  have b135e : ∀ (T : gv_S) (e : Nat), mX mSt S0 T → T.1 30 11 = gI e → e ≠ 0 → e ≤ 8 → mF h S0 (f_M_parts_b135 (some 30) (gI f) (gJ i) (gJ j) (gv_ov h T)) (gV_1 (gc_e e)) := fun T e q1 hT h0 h8 => by
    unfold f_M_parts_b135
    rw [gg_30_11, hT, bad_gt e h0 h8]
    exact mF.err q1 hT h0 h8
  have b130 : e = 0 → mF h S0 (f_M_parts_b130 (some 30) (gI f) (gJ i) (gJ j) (gv_ov h S)) (gV_1 (gc_e 3)) := fun z => by
    unfold f_M_parts_b130
    rw [gc_30, gI_lit 3, m_fail 0 3 (by rw [hb, z]) (by decide), gk_ca_some, bl_n]
    exact b135e _ 3 (q.trans (mX.I _ (mB_st ⟨rfl, rfl⟩))) (gu11 3) (by decide) (by decide)
  have b92 : ∀ th : Bool, th = decide (f = 59 ∨ f = 67) → mF h S0 (f_M_parts_b92 (some 30) (gI f) (gJ i) (gJ j) (gB th) (gv_ov h S)) (gV_1 (sx e (sp_prt f l t i j))) := by
    intro th hth
    unfold f_M_parts_b92
    rw [gg_30_11, hb, ite0 e he, ite_B, show (0 : Int64) = gJ 0 from rfl, show (1 : Int64) = gJ 1 from rfl, jte_ge _ _ _ _ (by omega) (by omega) (by decide) (by decide), jte_ge _ _ _ _ (by omega) (by omega) (by decide) (by decide), jte_lt _ _ _ _ (by omega) (by omega) (by decide) (by decide)]
    by_cases z : e = 0
    · have m135 := mpa_135 (h := h) (S0 := S0) hf ok okt q (by rw [hb, z]) (hW z) (hW1 z) i j hi1 hi2 hj1 hj2
      rw [if_pos z, show ∀ c : gp_C, sx e c = c from fun c => if_pos z]
      cases th
      · have nf := of_decide_eq_false hth.symm
        rw [if_neg nf] at m135
        rw [if_neg (show ¬ (false = true) by decide)]
        by_cases zi : 0 ≤ i
        · rw [if_pos zi]
          exact m135 zi
        · have es : sp_prt f l t i j = gc_e 3 := by
            unfold sp_prt
            have : f = 57 ∨ f = 58 ∨ f = 65 := by omega
            rcases this with rfl | rfl | rfl
            · rw [if_pos (Or.inl rfl), if_pos (by omega)]
            · rw [if_pos (Or.inr rfl), if_pos (by omega)]
            · rw [if_neg (by decide), if_neg (by decide), if_pos rfl, if_pos (Or.inl (by omega))]
          rw [if_neg zi, es]
          exact b130 z
      · have yf := of_decide_eq_true hth.symm
        rw [if_pos yf] at m135
        rw [if_pos (show true = true from rfl)]
        have es : i < 1 ∨ j < 0 → sp_prt f l t i j = gc_e 3 := fun w => by
          unfold sp_prt
          rcases yf with rfl | rfl
          · rw [if_neg (by decide), if_pos rfl, if_pos w]
          · rw [if_neg (by decide), if_neg (by decide), if_neg (by decide), if_pos w]
        by_cases zi : i < 1
        · rw [if_pos zi, es (Or.inl zi)]
          exact b130 z
        · rw [if_neg zi]
          by_cases zj : 0 ≤ j
          · rw [if_pos zj]
            exact m135 ⟨by omega, zj⟩
          · rw [if_neg zj, es (Or.inr (by omega))]
            exact b130 z
    · rw [if_neg z, show ∀ c : gp_C, sx e c = gc_e e from fun c => if_neg z]
      exact b135e S e q hb z he
  have q59 : (gI f = (59 : Int32)) = (f = 59) := gI_eq f 59 (by omega) (by decide)
  have q67 : (gI f = (67 : Int32)) = (f = 67) := gI_eq f 67 (by omega) (by decide)
  unfold f_M_parts_b75 f_M_parts_b87
  simp only [q59, q67]
  have o1 : (1 : Int32) = gB true := rfl
  have o0 : (0 : Int32) = gB false := rfl
  by_cases z1 : f = 59
  · rw [if_pos z1, o1]
    exact b92 true (decide_eq_true (Or.inl z1)).symm
  · rw [if_neg z1]
    by_cases z2 : f = 67
    · rw [if_pos z2, o1]
      exact b92 true (decide_eq_true (Or.inr z2)).symm
    · rw [if_neg z2, o0]
      exact b92 false (decide_eq_false (by omega)).symm
end MPA
