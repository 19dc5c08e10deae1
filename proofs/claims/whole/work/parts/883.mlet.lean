/-! THE PURE PART: the reference's letters (60 to 63), parts all -/
theorem sx_c {e : Nat} {c c' : gp_C} (h : e = 0 → c = c') : sx e c = sx e c' := by
  unfold sx
  by_cases z : e = 0
  · rw [if_pos z, if_pos z, h z]
  · rw [if_neg z, if_neg z]
section MLE
variable {h : gk_H} {S S0 S1 T : gv_S} {a n f : Nat} {vs : Nat → gp_V} {l L : List Nat} {w : Nat}
theorem mo_parts (g : mG S a vs n) (qT : mX mSt S T) (hb : T.1 30 11 = gI (sT vs 0).1) (hW : mW T 0 (sT vs 0).2) (hf : f = 56 ∨ f = 57 ∨ f = 58 ∨ f = 59 ∨ f = 65 ∨ f = 67) (hn1 : 1 ≤ n) (n57 : f = 57 ∨ f = 58 → n ≤ 2) (n59 : f = 59 → n = 3) (n65 : f = 65 → n = 2) (n67 : f = 67 → n = 4) : mF h S (f_M_parts (some 30) (gI f) (gI a) (gI n) (gv_ov h T)) (gV_1 (sp_wo f vs n)) := by
  have h16 := g.1
  obtain ⟨t1, t2, t3⟩ := g.sT (k := 0) (by omega)
  have q56 : (gI f = (56 : Int32)) = (f = 56) := gI_eq f 56 (by omega) (by decide)
  have q59 : (gI f = (59 : Int32)) = (f = 59) := gI_eq f 59 (by omega) (by decide)
  have q67 : (gI f = (67 : Int32)) = (f = 67) := gI_eq f 67 (by omega) (by decide)
  unfold f_M_parts
  simp only [q56]
  by_cases z56 : f = 56
  · rw [if_pos z56, z56, wo_56, gr_30_14, ga_40z, hW.2.2.1, gc_30, gu_idU]
    exact mF.ansS (fd_i2df _) qT hb t1
  · have hf' : f = 57 ∨ f = 58 ∨ f = 59 ∨ f = 65 ∨ f = 67 := by omega
    rw [if_neg z56, gI_lit 1, ite_le _ _ _ _ (by omega) (by decide)]
    have gT := g.st qT
    -- behind the first whole number
    have b34 : ∀ (U : gv_S) (i : Int) (e : Nat), mX mSt T U → -9007199254740992 < i → i < 9007199254740992 → U.1 30 11 = gI e → e ≤ 8 → mW U 0 (sT vs 0).2 → mF h S (f_M_parts_b34 (some 30) (gI f) (gI a) (gJ i) (gv_ov h U)) (gV_1 (if f = 59 then sx (bl e (sW vs 2)) (sp_prt 59 (sT vs 0).2 [] i (sw_x vs 2)) else if f = 67 then sx (bl (bl e (sW vs 2)) (sT vs 3).1) (sp_prt 67 (sT vs 0).2 (sT vs 3).2 i (sw_x vs 2)) else sx e (sp_prt f (sT vs 0).2 [] i 0))) := by
      intro U i e qU i1 i2 hU he hWU
      have qSU := qT.trans qU
      have gU := gT.st qU
      unfold f_M_parts_b34 f_M_parts_b48
      simp only [q59, q67]
      by_cases z59 : f = 59
      · have hn := n59 z59
        obtain ⟨w1, w2, w3⟩ := g.sW (k := 2) (by omega)
        obtain ⟨V, p1, p2, p3⟩ := m_whoW (h := h) gU (k := 2) (by omega) hU he
        have qV : mX mSt S V := qSU.trans (p2.le fun _ _ z => mQ_st z)
        have hE := bl_le he w1
        have := mpa_75 (h := h) (S0 := S) (f := f) (t := []) hf' t3 okT.nil hE qV p3 (fun _ => hWU.q p2) (fun _ y => by omega) i (if e = 0 then sw_x vs 2 else 0) i1 i2 (by split <;> omega) (by split <;> omega)
        rw [if_pos z59, if_pos z59, show gI a + (2 : Int32) = gI (a + 2) from gI_add _ 2, gc_30, p1, gk_ca_some]
        unfold f_M_parts_b59
        rw [if_neg (show ¬ gI f = (67 : Int32) from fun y => by have := q67.mp y; omega)]
        have e2 : sx (bl e (sW vs 2)) (sp_prt f (sT vs 0).2 [] i (if e = 0 then sw_x vs 2 else 0)) = sx (bl e (sW vs 2)) (sp_prt 59 (sT vs 0).2 [] i (sw_x vs 2)) := sx_c fun y => by rw [if_pos (bl_z.mp y).1, z59]
        rw [e2] at this
        exact this
      · rw [if_neg z59, if_neg z59]
        by_cases z67 : f = 67
        · have hn := n67 z67
          obtain ⟨w1, w2, w3⟩ := g.sW (k := 2) (by omega)
          obtain ⟨y1, y2, y3⟩ := g.sT (k := 3) (by omega)
          obtain ⟨V, p1, p2, p3⟩ := m_whoW (h := h) gU (k := 2) (by omega) hU he
          have qV : mX mSt S V := qSU.trans (p2.le fun _ _ z => mQ_st z)
          have hE := bl_le he w1
          obtain ⟨X, r1, r2, r3, r4⟩ := m_txtT (h := h) (g.st qV) (k := 3) (w := 1) (by omega) (by decide) p3 hE
          have qX : mX mSt S X := qV.trans (r2.le fun _ _ z => mWq_st z)
          have hWX : mW X 0 (sT vs 0).2 := (hWU.q p2).wq r2 (by decide) (by decide) (by decide)
          have hE2 := bl_le hE y1
          have okz : okT (if bl e (sW vs 2) = 0 then (sT vs 3).2 else []) := by
            split
            · exact y3
            · exact okT.nil
          have := mpa_75 (h := h) (S0 := S) (f := f) hf' t3 okz hE2 qX r3 (fun _ => hWX) (fun _ _ => r4) i (if e = 0 then sw_x vs 2 else 0) i1 i2 (by split <;> omega) (by split <;> omega)
          have r1' : f_M_wantText (some 30) (gI (a + 3)) (1 : Int32) (gv_ov h V) = _ := r1
          rw [if_pos z67, if_pos z67, show gI a + (2 : Int32) = gI (a + 2) from gI_add _ 2, gc_30, p1, gk_ca_some]
          unfold f_M_parts_b59
          rw [if_pos (show gI f = (67 : Int32) from q67.mpr z67), show gI a + (3 : Int32) = gI (a + 3) from gI_add _ 3, gc_30, r1', gk_ca_some]
          have e2 : sx (bl (bl e (sW vs 2)) (sT vs 3).1) (sp_prt f (sT vs 0).2 (if bl e (sW vs 2) = 0 then (sT vs 3).2 else []) i (if e = 0 then sw_x vs 2 else 0)) = sx (bl (bl e (sW vs 2)) (sT vs 3).1) (sp_prt 67 (sT vs 0).2 (sT vs 3).2 i (sw_x vs 2)) := sx_c fun y => by
            have y5 := (bl_z.mp y).1
            rw [if_pos y5, if_pos (bl_z.mp y5).1, z67]
          rw [e2] at this
          exact this
        · rw [if_neg z67, if_neg z67]
          unfold f_M_parts_b59
          rw [if_neg (show ¬ gI f = (67 : Int32) from fun y => z67 (q67.mp y))]
          exact mpa_75 (h := h) (S0 := S) (f := f) (t := []) (j := 0) hf' t3 okT.nil he qSU hU (fun _ => hWU) (fun _ y => absurd y z67) i i1 i2 (by decide) (by decide)
    -- the specification in these words
    have es : ∀ (i : Int) (e : Nat), (1 < n → e = bl (sT vs 0).1 (sW vs 1) ∧ ((sT vs 0).1 = 0 → i = sw_x vs 1)) → (¬ 1 < n → e = (sT vs 0).1 ∧ i = 1) → (if f = 59 then sx (bl e (sW vs 2)) (sp_prt 59 (sT vs 0).2 [] i (sw_x vs 2)) else if f = 67 then sx (bl (bl e (sW vs 2)) (sT vs 3).1) (sp_prt 67 (sT vs 0).2 (sT vs 3).2 i (sw_x vs 2)) else sx e (sp_prt f (sT vs 0).2 [] i 0)) = sp_wo f vs n := by
      intro i e h1 h2
      rcases hf' with y | y | y | y | y
      · have eo : e = bl (sT vs 0).1 (oW vs n 1) ∧ ((sT vs 0).1 = 0 → i = oX vs n 1) := by
          unfold oW oX
          by_cases y1 : 1 < n
          · rw [if_pos y1, if_pos y1]
            exact h1 y1
          · rw [if_neg y1, if_neg y1, bl_0]
            exact ⟨(h2 y1).1, fun _ => (h2 y1).2⟩
        rw [if_neg (by omega), if_neg (by omega), wo_57 f (by omega), eo.1]
        refine sx_c fun z => ?_
        rw [← eo.2 (bl_z.mp z).1]
        unfold sp_prt
        rw [if_pos (by omega)]
      · have eo : e = bl (sT vs 0).1 (oW vs n 1) ∧ ((sT vs 0).1 = 0 → i = oX vs n 1) := by
          unfold oW oX
          by_cases y1 : 1 < n
          · rw [if_pos y1, if_pos y1]
            exact h1 y1
          · rw [if_neg y1, if_neg y1, bl_0]
            exact ⟨(h2 y1).1, fun _ => (h2 y1).2⟩
        rw [if_neg (by omega), if_neg (by omega), wo_57 f (by omega), eo.1]
        refine sx_c fun z => ?_
        rw [← eo.2 (bl_z.mp z).1]
        unfold sp_prt
        rw [if_pos (by omega)]
      · have hn := n59 y
        obtain ⟨e1, e2⟩ := h1 (by omega)
        rw [if_pos y, y, wo_59, e1]
        refine sx_c fun z => ?_
        rw [e2 (bl_z.mp (bl_z.mp z).1).1]
        rfl
      · have hn := n65 y
        obtain ⟨e1, e2⟩ := h1 (by omega)
        rw [if_neg (by omega), if_neg (by omega), y, wo_65, e1]
        refine sx_c fun z => ?_
        rw [e2 (bl_z.mp z).1]
        rfl
      · have hn := n67 y
        obtain ⟨e1, e2⟩ := h1 (by omega)
        rw [if_neg (by omega), if_pos y, y, wo_67, e1]
        refine sx_c fun z => ?_
        rw [e2 (bl_z.mp (bl_z.mp (bl_z.mp z).1).1).1]
        rfl
    by_cases z1 : n ≤ 1
    · rw [if_pos z1]
      have := b34 T 1 _ (mX.refl _ _) (by decide) (by decide) hb t1 hW
      rw [es 1 _ (fun y => by omega) (fun _ => ⟨rfl, rfl⟩)] at this
      exact this
    · obtain ⟨w1, w2, w3⟩ := g.sW (k := 1) (by omega)
      obtain ⟨U, p1, p2, p3⟩ := m_whoW (h := h) gT (k := 1) (by omega) hb t1
      have qU : mX mSt T U := p2.le fun _ _ z => mQ_st z
      have := b34 U (if (sT vs 0).1 = 0 then sw_x vs 1 else 0) _ qU (by split <;> omega) (by split <;> omega) p3 (bl_le t1 w1) (hW.q p2)
      rw [es _ _ (fun _ => ⟨rfl, fun y => if_pos y⟩) (fun y => by omega)] at this
      rw [if_neg z1, show gI a + gI 1 = gI (a + 1) from gI_add _ 1, gc_30, p1, gk_ca_some]
      exact this
/-- great, small, words' letters -/
theorem mle_20 (hf : f = 60 ∨ f = 61 ∨ f = 62) (ok : okT l) : ∀ (t p : List Nat) (fu : Nat) (iw : Bool) (T : gv_S) (L : List Nat), l = p ++ t → t.length < fu → mW T 0 l → mBd T L → L.length = p.length → ∃ T', f_M_letters_b20 fu (some 30) (gI f) (gB iw) (gI p.length) (gv_ov h T) = some ((), gv_ov h T') ∧ mX mAb T T' ∧ mBd T' (L ++ sp_rec f (if f = 62 then !iw else !decide (f = 61)) t) := by
  intro t
  induction t with
  | nil =>
    intro p fu iw T L e hfu hW hB hL
    obtain ⟨fu, rfl⟩ : ∃ g, fu = g + 1 := ⟨fu - 1, by omega⟩
    have hl := hW.1
    have hlp : l.length = p.length := by rw [e]; simp
    rw [f_M_letters_b20]
    dsimp only
    rw [gr_30_14, ga_40z, hW.2.2.1, ite_le _ _ _ _ (by omega) (by omega), if_pos (by omega)]
    refine ⟨T, rfl, mX.refl _ _, ?_⟩
    rw [show sp_rec f (if f = 62 then !iw else !decide (f = 61)) [] = [] from rfl, List.append_nil]
    exact hB
  | cons c t ih =>
    intro p fu iw T L e hfu hW hB hL
    rw [List.length_cons] at hfu
    obtain ⟨fu, rfl⟩ : ∃ g, fu = g + 1 := ⟨fu - 1, by omega⟩
    have hl := hW.1
    have hlp : l.length = p.length + (t.length + 1) := by rw [e]; simp
    have hc := ok c (by rw [e]; simp)
    have hget : l.getD p.length 0 = c := by rw [e]; exact gp_mid p t c
    have hg : 32 ≤ nl_g c ∧ nl_g c ≤ 126 := by
      unfold nl_g
      split <;> omega
    have hs : 32 ≤ nl_sm c ∧ nl_sm c ≤ 126 := by
      unfold nl_sm
      split <;> omega
    have o1 : (1 : Int32) = gB true := rfl
    have o0 : (0 : Int32) = gB false := rfl
    have i1 : gI p.length + (1 : Int32) = gI (p.length + 1) := gI_add _ 1
    -- a letter put down
    have b227 : ∀ (le : Bool) (x : Nat), le = isL c → x = (if (if f = 62 then !iw else !decide (f = 61)) = true then nl_g c else nl_sm c) → ∃ T', f_M_letters_b227 (f_M_letters_b20 fu) (some 30) (gI f) (gI p.length) (gB le) (some 30) (gI x) (gv_ov h T) = some ((), gv_ov h T') ∧ mX mAb T T' ∧ mBd T' (L ++ sp_rec f (if f = 62 then !iw else !decide (f = 61)) (c :: t)) := by
      intro le x hle hx
      have hx2 : 32 ≤ x ∧ x ≤ 126 := by
        rw [hx]
        cases (if f = 62 then !iw else !decide (f = 61))
        · rw [if_neg (by decide)]
          exact hs
        · rw [if_pos rfl]
          exact hg
      obtain ⟨T1, a1, a2, a3⟩ := hB.add (h := h) x hx2.1 hx2.2 (by omega)
      obtain ⟨T2, b1, b2, b3⟩ := ih (p ++ [c]) fu le T1 (L ++ [x]) (by rw [List.append_assoc]; exact e) (by omega) (hW.ab a2) a3 (by rw [List.length_append, List.length_append, hL]; rfl)
      rw [List.length_append, List.length_singleton] at b1
      unfold f_M_letters_b227 f_M_letters_b230
      rw [gc_30, a1, gk_ca_some, gk_let_eq, i1, b1]
      refine ⟨T2, rfl, a2.trans b2, ?_⟩
      have er : sp_rec f (if f = 62 then !iw else !decide (f = 61)) (c :: t) = x :: sp_rec f (if f = 62 then !le else !decide (f = 61)) t := by
        show (if (if f = 62 then !iw else !decide (f = 61)) = true then nl_g c else nl_sm c) :: sp_rec f (if f = 62 then !isL c else (if f = 62 then !iw else !decide (f = 61))) t = _
        rw [← hx, hle]
        congr 2
        by_cases y : f = 62
        · rw [if_pos y, if_pos y]
        · rw [if_neg y, if_neg y, if_neg y]
      rw [er]
      rw [List.append_assoc] at b3
      exact b3
    have b64 : ∀ le : Bool, le = isL c → ∃ T', f_M_letters_b64 (f_M_letters_b20 fu) (some 30) (gI f) (gB iw) (gI p.length) (gI c) (gI (nl_g c)) (gB le) (gv_ov h T) = some ((), gv_ov h T') ∧ mX mAb T T' ∧ mBd T' (L ++ sp_rec f (if f = 62 then !iw else !decide (f = 61)) (c :: t)) := by
      intro le hle
      have b81 : ∃ T', f_M_letters_b81 (f_M_letters_b20 fu) (some 30) (gI f) (gB iw) (gI p.length) (gI c) (gI (nl_g c)) (gB le) (gI (nl_sm c)) (gv_ov h T) = some ((), gv_ov h T') ∧ mX mAb T T' ∧ mBd T' (L ++ sp_rec f (if f = 62 then !iw else !decide (f = 61)) (c :: t)) := by
        unfold f_M_letters_b81
        rcases hf with rfl | rfl | rfl
        · rw [if_neg (show ¬ gI 60 = (63 : Int32) by decide), if_pos (show gI 60 = (60 : Int32) from rfl)]
          exact b227 le _ hle rfl
        · rw [if_neg (show ¬ gI 61 = (63 : Int32) by decide), if_neg (show ¬ gI 61 = (60 : Int32) by decide), if_pos (show gI 61 = (61 : Int32) from rfl)]
          exact b227 le _ hle rfl
        · rw [if_neg (show ¬ gI 62 = (63 : Int32) by decide), if_neg (show ¬ gI 62 = (60 : Int32) by decide), if_neg (show ¬ gI 62 = (61 : Int32) by decide), ite_B]
          cases iw
          · rw [if_neg (by decide)]
            exact b227 le _ hle rfl
          · rw [if_pos rfl]
            exact b227 le _ hle rfl
      have esm : nl_sm c = if le = true then nl_g c + 32 else c := by
        rw [hle]
        unfold isL nl_sm nl_g
        by_cases y : 97 ≤ c ∧ c ≤ 122
        · rw [if_pos y, if_neg (by omega), decide_eq_true (by omega), if_pos rfl]
          omega
        · rw [if_neg y]
          by_cases y2 : 65 ≤ c ∧ c ≤ 90
          · rw [if_pos y2, decide_eq_true y2, if_pos rfl]
          · rw [if_neg y2, decide_eq_false y2, if_neg (by decide)]
      rw [esm] at b81
      unfold f_M_letters_b64
      rw [ite_B]
      cases le
      · rw [if_neg (by decide)] at b81
        rw [if_neg (by decide)]
        exact b81
      · rw [if_pos rfl] at b81
        rw [if_pos rfl, show gI (nl_g c) + (32 : Int32) = gI (nl_g c + 32) from gI_add _ 32]
        exact b81
    rw [f_M_letters_b20]
    dsimp only
    unfold f_M_letters_b63
    have h41 := hW.2.2.2 p.length (by omega)
    rw [Nat.mul_zero, Nat.zero_add] at h41
    rw [gr_30_14, ga_40z, hW.2.2.1, ite_le _ _ _ _ (by omega) (by omega), if_neg (by omega), gr_30_15, ga_41 (by omega), h41, hget, m_great c (by omega), gk_ca_some, gI_lit 65, ite_lt _ _ _ _ (by omega) (by decide), gI_lit 90, ite_lt _ _ _ _ (by decide) (by omega)]
    by_cases y1 : nl_g c < 65
    · rw [if_pos y1, o0]
      exact b64 false (by unfold isL; rw [decide_eq_false (by omega)])
    · rw [if_neg y1]
      by_cases y2 : 90 < nl_g c
      · rw [if_pos y2, o0]
        exact b64 false (by unfold isL; rw [decide_eq_false (by omega)])
      · rw [if_neg y2, o1]
        exact b64 true (by unfold isL; rw [decide_eq_true (by omega)])
/-- whether all from here on are spaces -/
def allS (t : List Nat) : Bool := t.all (fun x => x == 32)
theorem allS_c (c : Nat) (t : List Nat) : allS (c :: t) = ((c == 32) && allS t) := rfl
theorem mle_95 (g : Option Nat → Int32 → Int32 → Int32 → gk_H → Option (Unit × gk_H)) (ok : okT l) (hW : mW S 0 l) (k c v6 : Int32) : ∀ (t p : List Nat) (fu : Nat) (la : Bool), l = p ++ t → t.length < fu → f_M_letters_b95 g fu (some 30) (gI 63) k c v6 (gB la) (gI p.length) (gv_ov h S) = (if c = (32 : Int32) then (if (la && allS t) = true then f_M_letters_b172 g (some 30) (gI 63) k c v6 (gv_ov h S) else (((gk_get (gv_ov h S) (some 30) 7 9).bind gk_asR).bind fun x3 => ((gk_ald (gv_ov h S) x3 1 (256 : Int32)).bind gk_asI).bind fun x4 => if x4 = 0 then (f_M_letters_b172 g (some 30) (gI 63) k c v6 (gv_ov h S)) else (((gk_get (gv_ov h S) (some 30) 7 15).bind gk_asR).bind fun x5 => ((gk_ald (gv_ov h S) x5 3 (k - (1 : Int32))).bind gk_asI).bind fun x6 => if x6 = (32 : Int32) then (f_M_letters_b172 g (some 30) (gI 63) k c v6 (gv_ov h S)) else (f_M_letters_b176 g (some 30) (gI 63) k c v6 (gv_ov h S))))) else f_M_letters_b176 g (some 30) (gI 63) k c v6 (gv_ov h S)) := by
  have hl := hW.1
  intro t
  induction t with
  | nil =>
    intro p fu la e hfu
    obtain ⟨fu, rfl⟩ : ∃ g, fu = g + 1 := ⟨fu - 1, by omega⟩
    have hlp : l.length = p.length := by rw [e]; simp
    rw [f_M_letters_b95]
    dsimp only
    rw [gr_30_14, ga_40z, hW.2.2.1, ite_le _ _ _ _ (by omega) (by omega), if_pos (by omega), ite_B, show allS [] = true from rfl, Bool.and_true]
  | cons d t ih =>
    intro p fu la e hfu
    rw [List.length_cons] at hfu
    obtain ⟨fu, rfl⟩ : ∃ g, fu = g + 1 := ⟨fu - 1, by omega⟩
    have hlp : l.length = p.length + (t.length + 1) := by rw [e]; simp
    have hd := ok d (by rw [e]; simp)
    have hget : l.getD p.length 0 = d := by rw [e]; exact gp_mid p t d
    have h41 := hW.2.2.2 p.length (by omega)
    rw [Nat.mul_zero, Nat.zero_add] at h41
    have i1 : gI p.length + (1 : Int32) = gI (p.length + 1) := gI_add _ 1
    have o1 : (1 : Int32) = gB true := rfl
    have o0 : (0 : Int32) = gB false := rfl
    have nx : ∀ la' : Bool, la' = (la && (d == 32)) → f_M_letters_b128 g (f_M_letters_b95 g fu) (some 30) (gI 63) k c v6 (gI p.length) (gB la') (gv_ov h S) = (if c = (32 : Int32) then (if (la && allS (d :: t)) = true then f_M_letters_b172 g (some 30) (gI 63) k c v6 (gv_ov h S) else (((gk_get (gv_ov h S) (some 30) 7 9).bind gk_asR).bind fun x3 => ((gk_ald (gv_ov h S) x3 1 (256 : Int32)).bind gk_asI).bind fun x4 => if x4 = 0 then (f_M_letters_b172 g (some 30) (gI 63) k c v6 (gv_ov h S)) else (((gk_get (gv_ov h S) (some 30) 7 15).bind gk_asR).bind fun x5 => ((gk_ald (gv_ov h S) x5 3 (k - (1 : Int32))).bind gk_asI).bind fun x6 => if x6 = (32 : Int32) then (f_M_letters_b172 g (some 30) (gI 63) k c v6 (gv_ov h S)) else (f_M_letters_b176 g (some 30) (gI 63) k c v6 (gv_ov h S))))) else f_M_letters_b176 g (some 30) (gI 63) k c v6 (gv_ov h S)) := fun la' h' => by
      have := ih (p ++ [d]) fu la' (by rw [List.append_assoc]; exact e) (by omega)
      rw [List.length_append, List.length_singleton, h', Bool.and_assoc, ← allS_c] at this
      unfold f_M_letters_b128
      rw [gk_let_eq, i1, h']
      exact this
    rw [f_M_letters_b95]
    dsimp only
    unfold f_M_letters_b127
    rw [gr_30_14, ga_40z, hW.2.2.1, ite_le _ _ _ _ (by omega) (by omega), if_neg (by omega), ite_B, gr_30_15, ga_41 (by omega), h41, hget, gI_lit 32, ite_eq _ _ _ _ (by omega) (by decide)]
    cases la
    · rw [if_neg (by decide), o0]
      exact nx false rfl
    · rw [if_pos rfl]
      by_cases y : d = 32
      · rw [if_pos y, show gI 32 = (32 : Int32) from rfl, o1]
        exact nx true (by rw [y]; rfl)
      · rw [if_neg y, o0]
        exact nx false (by simp [y])
/-- trimmed -/
theorem mle_trim (ok : okT l) : ∀ (t p : List Nat) (fu : Nat) (iw d : Bool) (mz : List Nat) (T : gv_S), l = p ++ t → t.length < fu → mW T 0 l → mBd T (mz ++ (if (d && !allS t) = true then [32] else [])) → (mz ++ (if (d && !allS t) = true then [32] else [])).length ≤ p.length → (d = true → mz ≠ [] ∧ p.getLast? = some 32) → (d = false → mz ≠ [] → p.getLast? ≠ some 32) → ∃ T', f_M_letters_b20 fu (some 30) (gI 63) (gB iw) (gI p.length) (gv_ov h T) = some ((), gv_ov h T') ∧ mX mAb T T' ∧ mBd T' (sp_trm d mz t) := by
  intro t
  induction t with
  | nil =>
    intro p fu iw d mz T e hfu hW hB hL h1 h2
    obtain ⟨fu, rfl⟩ : ∃ g, fu = g + 1 := ⟨fu - 1, by omega⟩
    have hl := hW.1
    have hlp : l.length = p.length := by rw [e]; simp
    rw [show allS [] = true from rfl, show (d && !true) = false by cases d <;> rfl, if_neg (by decide), List.append_nil] at hB
    rw [f_M_letters_b20]
    dsimp only
    rw [gr_30_14, ga_40z, hW.2.2.1, ite_le _ _ _ _ (by omega) (by omega), if_pos (by omega)]
    exact ⟨T, rfl, mX.refl _ _, hB⟩
  | cons c t ih =>
    intro p fu iw d mz T e hfu hW hB hL h1 h2
    rw [List.length_cons] at hfu
    obtain ⟨fu, rfl⟩ : ∃ g, fu = g + 1 := ⟨fu - 1, by omega⟩
    have hl := hW.1
    have hlp : l.length = p.length + (t.length + 1) := by rw [e]; simp
    have hc := ok c (by rw [e]; simp)
    have hget : l.getD p.length 0 = c := by rw [e]; exact gp_mid p t c
    have hg : nl_g c < 128 := nl_g_lt (by omega)
    have i1 : gI p.length + (1 : Int32) = gI (p.length + 1) := gI_add _ 1
    have o1 : (1 : Int32) = gB true := rfl
    have o0 : (0 : Int32) = gB false := rfl
    have k32 : (gI c = (32 : Int32)) = (c = 32) := gI_eq c 32 (by omega) (by decide)
    have hlast : (p ++ [c]).getLast? = some c := by simp
    have h41 := hW.2.2.2 p.length (by omega)
    rw [Nat.mul_zero, Nat.zero_add] at h41
    -- on, nothing put down
    have b230 : ∀ (le : Bool) (d' : Bool) (mz' : List Nat) (T1 : gv_S), mX mAb T T1 → mBd T1 (mz' ++ (if (d' && !allS t) = true then [32] else [])) → (mz' ++ (if (d' && !allS t) = true then [32] else [])).length ≤ p.length + 1 → (d' = true → mz' ≠ [] ∧ c = 32) → (d' = false → mz' ≠ [] → c ≠ 32) → sp_trm d' mz' t = sp_trm d mz (c :: t) → ∃ T', f_M_letters_b230 (f_M_letters_b20 fu) (some 30) (gI 63) (gI p.length) (gB le) (gv_ov h T1) = some ((), gv_ov h T') ∧ mX mAb T T' ∧ mBd T' (sp_trm d mz (c :: t)) := by
      intro le d' mz' T1 q hB1 hL1 g1 g2 es
      obtain ⟨T2, b1, b2, b3⟩ := ih (p ++ [c]) fu le d' mz' T1 (by rw [List.append_assoc]; exact e) (by omega) (hW.ab q) hB1 (by rw [show (p ++ [c]).length = p.length + 1 by simp]; exact hL1) (fun y => ⟨(g1 y).1, by rw [hlast, (g1 y).2]⟩) (fun y y2 => by rw [hlast]; exact fun z => g2 y y2 (Option.some.inj z))
      rw [List.length_append, List.length_singleton] at b1
      unfold f_M_letters_b230
      rw [gk_let_eq, i1, b1, ← es]
      exact ⟨T2, rfl, q.trans b2, b3⟩
    have hLp : (mz ++ (if (d && !allS (c :: t)) = true then [32] else [])).length ≤ 255 := by omega
    have b95 : ∀ le : Bool, ∃ T', f_M_letters_b95 (f_M_letters_b20 fu) gk_F (some 30) (gI 63) (gI p.length) (gI c) (gB le) (1 : Int32) (gI p.length) (gv_ov h T) = some ((), gv_ov h T') ∧ mX mAb T T' ∧ mBd T' (sp_trm d mz (c :: t)) := by
      intro le
      have h95 := mle_95 (h := h) (f_M_letters_b20 fu) ok hW (gI p.length) (gI c) (gB le) (c :: t) p gk_F true e (by rw [List.length_cons]; unfold gk_F; omega)
      rw [Bool.true_and] at h95
      have h95' : f_M_letters_b95 (f_M_letters_b20 fu) gk_F (some 30) (gI 63) (gI p.length) (gI c) (gB le) (1 : Int32) (gI p.length) (gv_ov h T) = _ := h95
      rw [h95']
      clear h95 h95'
      unfold f_M_letters_b172 f_M_letters_b176 f_M_letters_b177 f_M_letters_b190
      rw [if_neg (show ¬ ((1 : Int32) = 0) by decide), if_pos (show (0 : Int32) = 0 from rfl)]
      by_cases zc : c = 32
      · have eb : (c == 32) = true := by rw [zc]; rfl
        have eS : allS (c :: t) = allS t := by rw [allS_c, eb, Bool.true_and]
        have est : sp_trm d mz (c :: t) = sp_trm (!mz.isEmpty) mz t := by
          show (if c = 32 then sp_trm (!mz.isEmpty) mz t else _) = _
          rw [if_pos zc]
        rw [if_pos (show gI c = (32 : Int32) from k32.mpr zc)]
        -- skipped: what was built stays
        have skip : (mz ++ (if (d && !allS (c :: t)) = true then [32] else [])) = (mz ++ (if ((!mz.isEmpty) && !allS t) = true then [32] else [])) → ∃ T', f_M_letters_b230 (f_M_letters_b20 fu) (some 30) (gI 63) (gI p.length) (gB le) (gv_ov h T) = some ((), gv_ov h T') ∧ mX mAb T T' ∧ mBd T' (sp_trm d mz (c :: t)) := fun em => by
          rw [em] at hB hL
          refine b230 le (!mz.isEmpty) mz T (mX.refl _ _) hB (by omega) (fun y => ⟨fun y2 => ?_, zc⟩) (fun y y2 => ?_) est.symm
          · rw [y2] at y
            cases y
          · exfalso
            apply y2
            cases mz with
            | nil => rfl
            | cons x r => cases y
        by_cases za : allS (c :: t) = true
        · rw [if_pos za]
          refine skip ?_
          have zt : allS t = true := by rw [← eS]; exact za
          rw [za, zt, show (d && !true) = false by cases d <;> rfl, show ((!mz.isEmpty) && !true) = false by cases mz.isEmpty <;> rfl]
        · have za' : allS (c :: t) = false := by simpa using za
          have zt : allS t = false := by rw [← eS]; exact za'
          have hB' := hB.2
          rw [if_pos hLp] at hB'
          have h37 := hB'.2.1.1
          rw [if_neg za, gr_30_9, show (256 : Int32) = gI 256 from rfl, ga_37 (by decide), h37, ine0 _ (by omega)]
          by_cases zm : (mz ++ (if (d && !allS (c :: t)) = true then [32] else [])).length = 0
          · have em := List.length_eq_zero_iff.mp zm
            have emz : mz = [] := (List.append_eq_nil_iff.mp em).1
            rw [if_pos zm]
            refine skip ?_
            rw [emz]
            rw [emz] at em
            rw [em]
            rfl
          · have hp1 : 1 ≤ p.length := by omega
            obtain ⟨p', x, ep⟩ : ∃ p' x, p = p' ++ [x] := by
              rcases List.eq_nil_or_concat p with y | ⟨p', x, y⟩
              · rw [y] at hp1
                exact absurd hp1 (by decide)
              · exact ⟨p', x, by rw [y, List.concat_eq_append]⟩
            have hpl : p.length - 1 = p'.length := by rw [ep]; simp
            have hx : l.getD (p.length - 1) 0 = x := by
              rw [hpl, e, ep, List.append_assoc]
              exact gp_mid p' (c :: t) x
            have hlx : p.getLast? = some x := by rw [ep]; simp
            have okx := ok x (by rw [e, ep]; simp)
            have h41' := hW.2.2.2 (p.length - 1) (by omega)
            rw [Nat.mul_zero, Nat.zero_add, hx] at h41'
            rw [if_neg zm, gr_30_15, show gI p.length - (1 : Int32) = gI (p.length - 1) from gI_sub _ 1 hp1, ga_41 (by omega), h41', gI_lit 32, ite_eq _ _ _ _ (by omega) (by decide)]
            by_cases zx : x = 32
            · rw [if_pos zx]
              refine skip ?_
              cases d
              · have emz : mz ≠ [] := fun y => by
                  rw [y] at zm
                  exact zm rfl
                exact absurd (by rw [hlx, zx]) (h2 rfl emz)
              · have emz := (h1 rfl).1
                rw [za', zt]
                cases mz with
                | nil => exact absurd rfl emz
                | cons y r => rfl
            · have ed : d = false := by
                cases d
                · rfl
                · have := (h1 rfl).2
                  rw [hlx] at this
                  exact absurd (Option.some.inj this) zx
              rw [ed, show (false && !allS (c :: t)) = false from rfl, if_neg (by decide), List.append_nil] at hB hL zm
              obtain ⟨T1, a1, a2, a3⟩ := hB.add (h := h) c hc.1 hc.2 (by omega)
              have emz : mz.isEmpty = false := by
                cases mz with
                | nil => exact absurd rfl zm
                | cons y r => rfl
              rw [if_neg zx, gc_30, a1, gk_ca_some]
              rw [zc] at a3
              refine b230 le (!mz.isEmpty) mz T1 a2 ?_ ?_ (fun y => ⟨fun y2 => ?_, zc⟩) (fun y y2 => ?_) est.symm
              · rw [emz, zt]
                exact a3
              · rw [emz, zt, List.length_append]
                show mz.length + 1 ≤ _
                omega
              · rw [y2] at zm
                exact zm rfl
              · rw [emz] at y
                cases y
      · have eb : (c == 32) = false := by simp [zc]
        have za : allS (c :: t) = false := by rw [allS_c, eb, Bool.false_and]
        have est : sp_trm d mz (c :: t) = sp_trm false (mz ++ (if d = true then [32] else []) ++ [c]) t := by
          show (if c = 32 then _ else sp_trm false (mz ++ (if d = true then [32] else []) ++ [c]) t) = _
          rw [if_neg zc]
        rw [if_neg (show ¬ gI c = (32 : Int32) from fun y => zc (k32.mp y))]
        rw [za, show (d && !false) = d by cases d <;> rfl] at hB hL hLp
        obtain ⟨T1, a1, a2, a3⟩ := hB.add (h := h) c hc.1 hc.2 hLp
        rw [gc_30, a1, gk_ca_some]
        refine b230 le false (mz ++ (if d = true then [32] else []) ++ [c]) T1 a2 ?_ ?_ (fun y => by cases y) (fun _ _ => zc) est.symm
        · rw [show (false && !allS t) = false from rfl, if_neg (show ¬ (false = true) by decide), List.append_nil]
          exact a3
        · rw [show (false && !allS t) = false from rfl, if_neg (show ¬ (false = true) by decide), List.append_nil, List.length_append (bs := [c]), List.length_singleton]
          omega
    have b64 : ∀ le : Bool, ∃ T', f_M_letters_b64 (f_M_letters_b20 fu) (some 30) (gI 63) (gB iw) (gI p.length) (gI c) (gI (nl_g c)) (gB le) (gv_ov h T) = some ((), gv_ov h T') ∧ mX mAb T T' ∧ mBd T' (sp_trm d mz (c :: t)) := by
      intro le
      unfold f_M_letters_b64 f_M_letters_b81
      rw [if_pos (show gI 63 = (63 : Int32) from rfl), if_pos (show gI 63 = (63 : Int32) from rfl), ite_self]
      exact b95 le
    rw [f_M_letters_b20]
    dsimp only
    unfold f_M_letters_b63
    rw [gr_30_14, ga_40z, hW.2.2.1, ite_le _ _ _ _ (by omega) (by omega), if_neg (by omega), gr_30_15, ga_41 (by omega), h41, hget, m_great c (by omega), gk_ca_some, gI_lit 65, ite_lt _ _ _ _ (by omega) (by decide), gI_lit 90, ite_lt _ _ _ _ (by decide) (by omega)]
    by_cases y1 : nl_g c < 65
    · rw [if_pos y1, o0]
      exact b64 false
    · rw [if_neg y1]
      by_cases y2 : 90 < nl_g c
      · rw [if_pos y2, o0]
        exact b64 false
      · rw [if_neg y2, o1]
        exact b64 true
theorem wo_60 (f : Nat) (hf : f = 60 ∨ f = 61 ∨ f = 62) (vs : Nat → gp_V) (n : Nat) : sp_wo f vs n = sx (sT vs 0).1 (gc_txt (sp_rec f (!decide (f = 61)) (sT vs 0).2)) := by
  unfold sp_wo
  rw [if_neg (by omega), if_neg (by omega), if_neg (by omega), if_pos hf]
theorem wo_63 (vs : Nat → gp_V) (n : Nat) : sp_wo 63 vs n = sx (sT vs 0).1 (gc_txt (sp_trm false [] (sT vs 0).2)) := by
  unfold sp_wo
  rw [if_neg (by decide), if_neg (by decide), if_neg (by decide), if_neg (by decide), if_pos (by decide)]
theorem mo_letters (g : mG S a vs n) (qT : mX mSt S T) (hb : T.1 30 11 = gI (sT vs 0).1) (hW : mW T 0 (sT vs 0).2) (hn1 : 1 ≤ n) (hf : f = 60 ∨ f = 61 ∨ f = 62 ∨ f = 63) : mF h S (f_M_letters (some 30) (gI f) (gv_ov h T)) (gV_1 (sp_wo f vs n)) := by
  obtain ⟨t1, t2, t3⟩ := g.sT (k := 0) (by omega)
  unfold f_M_letters
  rw [gg_30_11, hb, itl0 _ t1]
  by_cases z : (sT vs 0).1 = 0
  · rw [z] at hb
    obtain ⟨U, s1, s2, s3⟩ := mBd.nil (h := h) hb
    have qU : mX mSt S U := qT.trans (s2.le fun _ _ z => mSet_st z)
    have hWU := hW.set s2
    rw [if_pos z, gc_30, s1, gk_ca_some]
    by_cases z63 : f = 63
    · obtain ⟨V, b1, b2, b3⟩ := mle_trim (h := h) t3 (sT vs 0).2 [] gk_F false false [] U rfl (by unfold gk_F; omega) hWU s3 (Nat.le_refl _) (fun y => by cases y) (fun _ y => absurd rfl y)
      have b1' : f_M_letters_b20 gk_F (some 30) (gI 63) (0 : Int32) (0 : Int32) (gv_ov h U) = _ := b1
      rw [z63, b1', wo_63, show sx (sT vs 0).1 (gc_txt (sp_trm false [] (sT vs 0).2)) = gc_txt (sp_trm false [] (sT vs 0).2) from if_pos z]
      exact b3.F (qU.trans (b2.le fun _ _ z => mAb_st z))
    · have hf' : f = 60 ∨ f = 61 ∨ f = 62 := by omega
      obtain ⟨V, b1, b2, b3⟩ := mle_20 (h := h) hf' t3 (sT vs 0).2 [] gk_F false U [] rfl (by unfold gk_F; omega) hWU s3 rfl
      have b1' : f_M_letters_b20 gk_F (some 30) (gI f) (0 : Int32) (0 : Int32) (gv_ov h U) = _ := b1
      have ei : (if f = 62 then !false else !decide (f = 61)) = !decide (f = 61) := by
        by_cases y : f = 62
        · rw [if_pos y, decide_eq_false (by omega)]
        · rw [if_neg y]
      rw [ei] at b3
      rw [b1', wo_60 f hf', show sx (sT vs 0).1 (gc_txt (sp_rec f (!decide (f = 61)) (sT vs 0).2)) = gc_txt (sp_rec f (!decide (f = 61)) (sT vs 0).2) from if_pos z]
      exact b3.F (qU.trans (b2.le fun _ _ z => mAb_st z))
  · have ee : sp_wo f vs n = gc_e (sT vs 0).1 := by
      by_cases y : f = 63
      · rw [y, wo_63]
        exact if_neg z
      · rw [wo_60 f (by omega)]
        exact if_neg z
    rw [if_neg z, ee]
    exact mF.err qT hb z t1
end MLE
