/-! THE PURE PART: the reference's stack methods -/
def mU (S : gv_S) (u : List Nat) : Prop := u.length ≤ 255 ∧ okT u ∧ S.1 30 1 = gI u.length ∧ ∀ k, k < u.length → S.1 31 k = gI (u.getD k 0)
/-- a method's end: its code, the stack, the text under way -/
def mO (S S' : gv_S) (code : Nat) (L : List gp_V) (u : List Nat) : Prop := S'.1 30 0 = gI code ∧ mS S' L ∧ mU S' u ∧ mFr S S'
def cdN {α : Type} (E1 : String) (o : Sum α String) : Nat := match o with
  | .inl _ => 0
  | .inr e => if e = E1 then 1 else 2
section MSK
variable {h : gk_H} {S : gv_S} {L : List gp_V} {u : List Nat} {V : gp_V}
theorem mFr.refl (S : gv_S) : mFr S S := ⟨rfl, fun _ _ _ => ⟨rfl, rfl⟩⟩
theorem mFr.trans {S S' S'' : gv_S} (a : mFr S S') (c : mFr S' S'') : mFr S S'' := ⟨c.1.trans a.1, fun x y hx => ⟨((c.2 x y hx).1).trans (a.2 x y hx).1, ((c.2 x y hx).2).trans (a.2 x y hx).2⟩⟩
theorem mX.fr {P : Nat → Nat → Prop} {S' : gv_S} (q : mX P S S') (hp : ∀ a b, P a b → 30 ≤ a ∧ a ≤ 41) : mFr S S' := ⟨q.2, fun a b hab => ⟨q.i (fun z => by have := hp a b z; omega), q.d (fun z => by have := hp a b z; omega)⟩⟩
theorem mU.X {P : Nat → Nat → Prop} {S' : gv_S} (a : mU S u) (q : mX P S S') (hp : ∀ x y, P x y → ¬ (x = 30 ∧ y = 1) ∧ x ≠ 31) : mU S' u := ⟨a.1, a.2.1, by rw [q.i (fun z => (hp _ _ z).1 ⟨rfl, rfl⟩)]; exact a.2.2.1, fun k hk => by rw [q.i (fun z => (hp _ _ z).2 rfl)]; exact a.2.2.2 k hk⟩
def mCd (a b : Nat) : Prop := a = 30 ∧ b = 0
theorem m_code (c : Nat) : mX mCd S (gv_uI S 30 0 (gI c)) := mX.I _ ⟨rfl, rfl⟩
theorem mS.code (a : mS S L) (c : Nat) : mS (gv_uI S 30 0 (gI c)) L := a.X (m_code c) fun x y z => by
  obtain ⟨z1, z2⟩ := z
  refine ⟨by omega, fun m _ w => ?_⟩
  unfold mVl at w
  omega
theorem mU.code (a : mU S u) (c : Nat) : mU (gv_uI S 30 0 (gI c)) u := a.X (m_code c) fun x y z => by
  obtain ⟨z1, z2⟩ := z
  omega
theorem mO.code (a : mS S L) (b : mU S u) (c : Nat) : mO S (gv_uI S 30 0 (gI c)) c L u := ⟨gu_I2 _ _ _ _, a.code c, b.code c, (m_code c).fr fun x y z => by
  obtain ⟨z1, z2⟩ := z
  omega⟩
theorem mi_full (a : mS S L) (c : Nat) (hc : c ≤ 16) : f_M_isFull (some 30) (gI c) (gv_ov h S) = some (gB (decide (L.length = 16)), gv_ov h S) := by
  obtain ⟨a1, a2, a3⟩ := a
  have loop : ∀ (r k fu al : Nat), k + r = L.length → r < fu → al ≤ 16 + 16 * k → f_M_isFull_b4 fu (some 30) (gI al) (gI k) (gv_ov h S) = some (gB (decide (L.length = 16)), gv_ov h S) := by
    intro r
    induction r with
    | zero =>
      intro k fu al hk hf hal
      obtain ⟨fu, rfl⟩ : ∃ f, fu = f + 1 := ⟨fu - 1, by omega⟩
      rw [f_M_isFull_b4]
      unfold f_M_isFull_b50 f_M_isFull_b55
      dsimp only
      rw [gg_30_3, a2, ite_le _ _ _ _ (by omega) (by omega), if_pos (by omega), gg_30_3, a2, gI_lit 16, ite_eq _ _ _ _ (by omega) (by decide), gI_lit 256, ite_le _ _ _ _ (by omega) (by decide), nb0, nb1]
      by_cases z : L.length = 16
      · rw [if_pos z, decide_eq_true z]
        rfl
      · rw [if_neg z, if_pos (by omega), decide_eq_false z]
        rfl
    | succ r ih =>
      intro k fu al hk hf hal
      obtain ⟨fu, rfl⟩ : ∃ f, fu = f + 1 := ⟨fu - 1, by omega⟩
      have hm := a3 k (by omega)
      have h16 := hm.1.2.2.1
      rw [f_M_isFull_b4]
      dsimp only
      rw [gg_30_3, a2, ite_le _ _ _ _ (by omega) (by omega), if_neg (by omega), gr_30_5, ga_33 (by omega), gr_30_6, ga_34 (by omega), hm.2.2.1, hm.2.2.2.1, gI_mul, gI_add, gk_let_eq, gk_let_eq, show gI k + (1 : Int32) = gI (k + 1) from gI_add k 1]
      exact ih (k + 1) fu _ (by omega) (by omega) (by omega)
  exact loop L.length 0 gk_F c (by omega) (by unfold gk_F; omega) (by omega)
/-- a single value put on the stack, where there is room -/
theorem mo_put (a : mS S L) (b : mU S u) (hl : L.length < 16) {c : gp_C} (hc : gp_okC c) (h2 : c.2.2.2 = []) {x : UInt64} (hx : fd_n x) (hmd : md c = fd_c x) : ∃ S', (gk_cv (gv_ov h (gv_uI S 30 0 (gI 0))) (some 30) 7 (f_M_setSingle (some 30) (gI L.length) (gI c.1) x (gv_ov h (gv_uI S 30 0 (gI 0)))) fun _ h2 => ((gk_get h2 (some 30) 7 3).bind gk_asI).bind fun x3 => (gk_set h2 (some 30) 7 3 (.int (x3 + (1 : Int32)))).bind fun h3 => some ((), h3)) = some ((), gv_ov h S') ∧ mO S S' 0 (L ++ [gV_1 c]) u := by
  have a0 := a.code 0
  obtain ⟨S1, e1, e2, e3⟩ := m_setV (h := h) (S := gv_uI S 30 0 (gI 0)) L.length (by omega) hc h2 x hx hmd
  have s3 : S1.1 30 3 = gI L.length := by
    rw [e2.i (fun z => by unfold mSet at z; omega)]
    exact a0.2.1
  have hp := a0.push (n := L.length) (Nat.le_refl _) hl (e2.le fun x y z => mSet_vl z) e3
  rw [List.take_length] at hp
  have q3 : mX (fun a b => a = 30 ∧ b = 3) S1 (gv_uI S1 30 3 (gI (L.length + 1))) := mX.I _ ⟨rfl, rfl⟩
  refine ⟨gv_uI S1 30 3 (gI (L.length + 1)), ?_, ?_, hp, ?_, ?_⟩
  · rw [gc_30, e1, gk_ca_some, gg_30_3, s3, show gI L.length + (1 : Int32) = gI (L.length + 1) from gI_add _ 1, gs_30_3]
  · rw [gu_I1 _ _ _ _ _ _ (by omega), e2.i (fun z => by unfold mSet at z; omega)]
    exact gu_I2 _ _ _ _
  · exact ((b.code 0).X e2 fun x y z => by unfold mSet at z; omega).X q3 fun x y z => by omega
  · exact ((mO.code a b 0).2.2.2.trans (e2.fr fun x y z => by unfold mSet at z; omega)).trans (q3.fr fun x y z => by omega)
theorem mo_number (a : mS S L) (b : mU S u) {x : UInt64} (hx : fd_f x) : ∃ S', f_M_number (some 30) x (gv_ov h S) = some ((), gv_ov h S') ∧ mO S S' (cdN eST (sp_push L (gV_1 (gc_n x))).1) (sp_push L (gV_1 (gc_n x))).2 u := by
  have h16 := a.1
  unfold f_M_number f_M_number_b14 sp_push
  rw [gc_30, show (1 : Int32) = gI 1 from rfl, mi_full a 1 (by decide), gk_ca_some, show (0 : Int32) = gI 0 from rfl, ite_BI, gs_30_0, gs_30_0, gg_30_0, gg_30_0, gu_I2, gu_I2]
  by_cases z : L.length = 16
  · rw [if_pos (decide_eq_true z), if_neg (show ¬ gI 1 ≤ gI 0 from by decide), if_neg (by omega)]
    exact ⟨_, rfl, mO.code a b 1⟩
  · rw [if_neg (by rw [decide_eq_false z]; decide), if_pos (show gI 0 ≤ gI 0 from by decide), if_pos (by omega), gg_30_3, (a.code 0).2.1]
    exact mo_put a b (by omega) (gp_okn hx) rfl hx.n rfl
theorem mo_drop (a : mS S L) (b : mU S u) : ∃ S', f_M_drop (some 30) (gv_ov h S) = some ((), gv_ov h S') ∧ mO S S' (cdN eST (sp_drop L).1) (sp_drop L).2 u := by
  have h16 := a.1
  have z0 : ∀ {β : Type} (x y : β), (if gI L.length = (0 : Int32) then x else y) = if L.length = 0 then x else y := fun x y => ite_eq x y _ 0 (by omega) (by decide)
  unfold f_M_drop f_M_drop_b13 f_M_drop_b33 sp_drop
  rw [gg_30_3, a.2.1, z0]
  by_cases z : L.length = 0
  · rw [if_pos z, if_pos z, show (1 : Int32) = gI 1 from rfl, gs_30_0, gg_30_0, gu_I2, if_neg (show ¬ gI 1 = 0 from by decide)]
    exact ⟨_, rfl, mO.code a b 1⟩
  · have a0 := a.code 0
    have q3 : mX (fun a b => a = 30 ∧ b = 3) (gv_uI S 30 0 (gI 0)) (gv_uI (gv_uI S 30 0 (gI 0)) 30 3 (gI (L.length - 1))) := mX.I _ ⟨rfl, rfl⟩
    have el : (L.take (L.length - 1)).length = L.length - 1 := by
      rw [List.length_take]
      omega
    rw [if_neg z, if_neg z, show (0 : Int32) = gI 0 from rfl, gs_30_0, gg_30_0, gu_I2, if_pos rfl, gg_30_3, a0.2.1, show gI L.length - (1 : Int32) = gI (L.length - 1) from gI_sub _ 1 (by omega), gs_30_3]
    have hS : mS (gv_uI (gv_uI S 30 0 (gI 0)) 30 3 (gI (L.length - 1))) (L.take (L.length - 1)) := by
      refine ⟨by omega, by rw [el]; exact gu_I2 _ _ _ _, fun m hm => ?_⟩
      rw [el] at hm
      rw [List.getD_eq_getElem?_getD, List.getElem?_take, if_pos hm, ← List.getD_eq_getElem?_getD]
      exact (a0.2.2 m (by omega)).X q3 fun x y w => by omega
    refine ⟨_, rfl, ?_, hS, (b.code 0).X q3 fun x y w => by omega, (mO.code a b 0).2.2.2.trans (q3.fr fun x y w => by omega)⟩
    rw [gu_I1 _ _ _ _ _ _ (by omega)]
    exact gu_I2 _ _ _ _
theorem mo_size (a : mS S L) (b : mU S u) : ∃ S', f_M_size (some 30) (gv_ov h S) = some (gI L.length, gv_ov h S') ∧ mO S S' 0 L u := by
  unfold f_M_size
  rw [show (0 : Int32) = gI 0 from rfl, gs_30_0, gg_30_3, (a.code 0).2.1]
  exact ⟨_, rfl, mO.code a b 0⟩
theorem mo_plain (a : mS S L) (b : mU S u) (k v : Int32) : ∃ S', f_M_plain (some 30) k v (gv_ov h S) = some ((), gv_ov h S') ∧ mO S S' (cdN eAR (sp_plain L k v).1) (sp_plain L k v).2 u := by
  have h16 := a.1
  have bad : ∃ S', f_M_plain_b38 (some 30) k v (gv_ov h S) = some ((), gv_ov h S') ∧ mO S S' 1 L u := by
    unfold f_M_plain_b38 f_M_plain_b39 f_M_plain_b62
    rw [if_pos rfl, show (1 : Int32) = gI 1 from rfl, gs_30_0, gg_30_0, gu_I2, if_neg (show ¬ gI 1 ≤ 0 from by decide)]
    exact ⟨_, rfl, mO.code a b 1⟩
  have good : ∀ {c : gp_C} (x : UInt64), gp_okC c → c.2.2.2 = [] → fd_n x → md c = fd_c x → k = gI c.1 → x = (if k = 0 then 0 else FP.i2d v) → ∃ S', f_M_plain_b34 (some 30) k v (gv_ov h S) = some ((), gv_ov h S') ∧ mO S S' (cdN eAR (sp_push L (gV_1 c)).1) (sp_push L (gV_1 c)).2 u := by
    intro c x hc h2 hx hmd hk hxe
    unfold f_M_plain_b34 f_M_plain_b39 f_M_plain_b62 f_M_plain_b89 sp_push
    rw [if_neg (show ¬ (1 : Int32) = 0 from by decide), gc_30, show (1 : Int32) = gI 1 from rfl, mi_full a 1 (by decide), gk_ca_some, ite_B]
    by_cases z : L.length = 16
    · rw [if_pos (decide_eq_true z), if_neg (show ¬ L.length < 16 by omega), gI_lit 2, gs_30_0, gg_30_0, gu_I2, if_neg (show ¬ gI 2 ≤ 0 from by decide)]
      exact ⟨_, rfl, mO.code a b 2⟩
    · obtain ⟨S', p1, p2⟩ := mo_put (h := h) a b (by omega) hc h2 hx hmd
      rw [if_neg (by rw [decide_eq_false z]; decide), if_pos (show L.length < 16 by omega)]
      have e0 : ∀ {β : Type} (K : gk_H → Option β), (gk_set (gv_ov h S) (some 30) 7 0 (.int (0 : Int32))).bind K = K (gv_ov h (gv_uI S 30 0 (gI 0))) := fun K => gs_30_0 _ K
      rw [e0, gg_30_0, gu_I2, if_pos (show gI 0 ≤ 0 from by decide), gg_30_3, (a.code 0).2.1]
      rw [← hk, hxe] at p1
      refine ⟨S', ?_, p2⟩
      by_cases zk : k = 0
      · rw [if_pos zk] at p1 ⊢
        exact p1
      · rw [if_neg zk] at p1 ⊢
        exact p1
  unfold f_M_plain f_M_plain_b18 sp_plain
  by_cases z0 : k = 0
  · rw [if_pos z0, if_pos z0]
    exact good (c := gc_0) 0 gp_ok0 rfl fd_0_n (by rw [fd_c0]; exact md_0) z0 (by rw [if_pos z0])
  · rw [if_neg z0, if_neg z0]
    by_cases z3 : k = 3
    · have n4 : ¬ k = 4 := by rw [z3]; decide
      rw [if_pos z3]
      by_cases y0 : v = 0
      · have n1 : ¬ v = 1 := by rw [y0]; decide
        rw [if_pos y0, if_pos (show k = 3 ∧ (v = 0 ∨ v = 1) from ⟨z3, Or.inl y0⟩), decide_eq_false n1]
        exact good (c := gc_b false) 0 (gp_okb false) rfl fd_0_n (by rw [md_gcb, fd_c0]; rfl) z3 (by rw [if_neg z0, y0]; decide +kernel)
      · rw [if_neg y0]
        by_cases y1 : v = 1
        · rw [if_pos y1, if_pos (show k = 3 ∧ (v = 0 ∨ v = 1) from ⟨z3, Or.inr y1⟩), decide_eq_true y1]
          exact good (c := gc_b true) 0x3ff0000000000000 (gp_okb true) rfl fd_1_f.n (by rw [md_gcb, fd_c1]; rfl) z3 (by rw [if_neg z0, y1]; decide +kernel)
        · rw [if_neg y1, if_neg n4, if_neg (fun w => w.2.elim y0 y1), if_neg (fun w => n4 w.1)]
          exact bad
    · rw [if_neg z3, if_neg (show ¬ (k = 3 ∧ (v = 0 ∨ v = 1)) from fun w => z3 w.1)]
      by_cases z4 : k = 4
      · rw [if_pos z4]
        by_cases y1 : v < 1
        · rw [if_pos y1, if_neg (fun w => w.2.1 y1)]
          exact bad
        · rw [if_neg y1]
          by_cases y8 : 8 < v
          · rw [if_pos y8, if_neg (fun w => w.2.2 y8)]
            exact bad
          · rw [if_neg y8, if_pos (show k = 4 ∧ ¬ v < 1 ∧ ¬ 8 < v from ⟨z4, y1, y8⟩)]
            have h0 : ¬ v < 0 := fun w => y1 (Int32.lt_trans w (by decide))
            obtain ⟨e1, e2⟩ := gI_in h0
            have y1' := y1
            have y8' := y8
            rw [e1, show (1 : Int32) = gI 1 from rfl, gI_lt _ _ e2 (by decide)] at y1'
            rw [e1, gI_lit 8, gI_lt _ _ (by decide) e2] at y8'
            have hne : fd_k (FP.i2d (gI v.toNatClampNeg)) ≠ 0 := (fd_i2nz (by omega) (by omega)).2
            exact good (c := gc_e v.toNatClampNeg) (FP.i2d (gI v.toNatClampNeg)) (gp_oke (by omega) (by omega)) rfl (fd_i2df _).n (by rw [md_gce]; unfold fd_c; rw [if_neg hne]) z4 (by rw [if_neg z0, ← e1])
      · rw [if_neg z4, if_neg (fun w => z4 w.1)]
        exact bad
end MSK
