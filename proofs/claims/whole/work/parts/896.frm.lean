/-! THE PURE PART: the law: frames, wrappers -/
theorem fd_k_mag {a : UInt64} {K : Nat} (h1 : -(K : Int) < fd_k a) (h2 : fd_k a < (K : Int)) : a.toNat % 2 ^ 63 < K := by
  have hl := a.toNat_lt
  unfold fd_k FP.Core.dkey at h1 h2
  split at h1 <;> omega
/-- what the law gives is a number -/
theorem gl_num (x : Int32) : fd_f (FP.dmul (FP.i2d x) 0x3fc0000000000000) := by
  have hi : fd_i x.toInt (FP.i2d x) := FP.Core.i2d_int x
  have b1 := Int32.le_toInt x
  have b2 := Int32.toInt_lt x
  obtain ⟨k1, k2⟩ := (fd_in_v hi.n).mpr (by rw [hi.v, ← Int.neg_mul]; exact ⟨fd_mulP.mpr (by omega), fd_mulP.mpr (by omega)⟩)
  have m1 := FP.Core.dmul_mag (a := FP.i2d x) (b := 0x3fc0000000000000) (Ka := 1076) (Kb := 1021) (fd_k_mag (by omega) (by omega)) (by decide) (by decide) (by decide)
  have m2 : (FP.dmul (FP.i2d x) 0x3fc0000000000000).toNat % 2 ^ 63 < 1075 * 2 ^ 52 := m1
  exact (FP.Core.fin_bits _).mpr (by omega)
section GLF
variable {b cap : Nat} {h : gk_H} {S S' : gv_S} {L : List gp_V} {u : List Nat}
def cl_fr (S S' : gv_S) : Prop := ∀ a c, 30 ≤ a → a ≤ 41 → S'.1 a c = S.1 a c ∧ S'.2.1 a c = S.2.1 a c
theorem cs_fr.cl (a : cs_fr S S') : cl_fr S S' := fun x y h1 _ => ⟨(a.1 x y (Or.inr (by omega))).1, (a.1 x y (Or.inr (by omega))).2.1⟩
theorem cl_fr.rf (S : gv_S) : cl_fr S S := fun _ _ _ _ => ⟨rfl, rfl⟩
theorem mc.cl {c : Nat} {x : gp_C} (f : cl_fr S S') (a : mc S c x) : mc S' c x := by
  obtain ⟨a1, a2, a3, a4⟩ := a
  exact ⟨(f 35 c (by decide) (by decide)).1.trans a1, (f 36 c (by decide) (by decide)).2.trans a2, (f 37 c (by decide) (by decide)).1.trans a3, fun k hk => (f 38 _ (by decide) (by decide)).1.trans (a4 k hk)⟩
theorem mv.cl {v : Nat} {V : gp_V} (f : cl_fr S S') (a : mv S v V) : mv S' v V := by
  obtain ⟨a1, a2, a3, a4, a5⟩ := a
  exact ⟨a1, (f 32 v (by decide) (by decide)).1.trans a2, (f 33 v (by decide) (by decide)).1.trans a3, (f 34 v (by decide) (by decide)).1.trans a4, fun j hj => (a5 j hj).cl f⟩
theorem mS.cl (f : cl_fr S S') (a : mS S L) : mS S' L :=
  ⟨a.1, (f 30 3 (by decide) (by decide)).1.trans a.2.1, fun m hm => (a.2.2 m hm).cl f⟩
theorem mU.cl (f : cl_fr S S') (a : mU S u) : mU S' u :=
  ⟨a.1, a.2.1, (f 30 1 (by decide) (by decide)).1.trans a.2.2.1, fun k hk => (f 31 k (by decide) (by decide)).1.trans (a.2.2.2 k hk)⟩
theorem cs_st.mf (f : mFr S S') (a : cs_st b cap h S L u) : cs_st b cap h S' L u := by
  obtain ⟨⟨a1, a2, a3⟩, a4⟩ := a
  refine ⟨⟨a1, ((f.2 16 1 (Or.inl (by decide))).1).trans a2, fun m hm => ?_⟩, a4⟩
  rw [f.1]
  exact a3 m hm
/-- the class's part is as it was -/
theorem cs_st.same (e1 : S'.1 = S.1) (e2 : S'.2.2.1 = S.2.2.1) (a : cs_st b cap h S L u) : cs_st b cap h S' L u := by
  obtain ⟨⟨a1, a2, a3⟩, a4⟩ := a
  refine ⟨⟨a1, by rw [e1]; exact a2, fun m hm => ?_⟩, a4⟩
  rw [e2]
  exact a3 m hm
theorem gl_cgt (h : gk_H) (S : gv_S) : gk_cgt (gv_ov h S) = gv_ov (gk_cgt h) S := rfl
theorem gl_cge (h : gk_H) : gp_ext 1 0 h (gk_cgt h) := ⟨Nat.le_succ _, Nat.le_refl _, Nat.le_refl _, fun _ _ => rfl⟩
/-- a wrapper of the law ends with the code r; what it answers holds A -/
def wM (cap : Nat) (h : gk_H) (S : gv_S) (x : Option (Int32 × gk_H)) (r : Int32) (L' : List gp_V) (u' : List Nat) (A : gv_S → Prop) : Prop := ∃ h' S' b' cap', x = some (r, gv_ov h' S') ∧ cs_st b' cap' h' S' L' u' ∧ cl_fr S S' ∧ gp_gw 303 8013 cap cap' h h' ∧ A S'
theorem gl_w {α : Type} {x : Option (Sum α String × gk_H)} {out : Sum α String} {L' : List gp_V} {u' : List Nat} {ck sk : Nat} {g : α → gk_H → Option (Int32 × gk_H)} {gE : String → gk_H → Option (Int32 × gk_H)} {E1 : String} {A : gv_S → Prop} (q : cM cap h S x out L' u' ck sk) (hck : ck ≤ 302) (hsk : sk ≤ 8013)
    (hr : ∀ E h1, out = .inr E → gE E h1 = some (gI (cdN E1 out), gk_cgt h1) ∧ ∀ T, A T)
    (hg : ∀ v h1 S1, out = .inl v → ∃ S2 : gv_S, g v (gv_ov h1 S1) = some ((0 : Int32), gv_ov h1 S2) ∧ S2.1 = S1.1 ∧ S2.2.2.1 = S1.2.2.1 ∧ (∀ a c, a ≤ 41 → S2.2.1 a c = S1.2.1 a c) ∧ A S2) :
    wM cap h S (gk_ch (gv_ov h S) (some 16) 5 x g gE) (gI (cdN E1 out)) L' u' A := by
  obtain ⟨h', S', b', cap', e, q2, f, w⟩ := q
  subst e
  cases out with
  | inl v =>
    obtain ⟨S2, e2, s1, s2, s3, s4⟩ := hg v h' S' rfl
    have f2 : cl_fr S S2 := fun a c h1 h2 => ⟨by rw [s1]; exact (f.cl a c h1 h2).1, by rw [s3 a c h2]; exact (f.cl a c h1 h2).2⟩
    exact ⟨h', S2, b', cap', e2, q2.same s1 s2, f2, w.le (by omega) (by omega), s4⟩
  | inr E =>
    obtain ⟨e2, e3⟩ := hr E (gv_ov h' S') rfl
    have w2 := w.trans (gp_gw.of (cap := cap') (gl_cge h'))
    exact ⟨gk_cgt h', S', b', cap', e2, q2.ext (gl_cge h'), f.cl, w2.le (by omega) (by omega), e3 S'⟩
theorem cdN_1 {α : Type} (E1 : String) : cdN (α := α) E1 (.inr E1) = 1 := if_pos rfl
theorem cdN_2 {α : Type} {E1 E2 : String} (h : E2 ≠ E1) : cdN (α := α) E1 (.inr E2) = 2 := if_neg h
/-- one exception is caught -/
theorem gl_h1 {α : Type} {out : Sum α String} {E1 : String} {A : gv_S → Prop} (hx : ∀ E, out = .inr E → E = E1) (hA : ∀ E, out = .inr E → ∀ T, A T) : ∀ E h1, out = .inr E → (if E = E1 then (gk_let (some h1.1) fun _ : Option Nat => some ((1 : Int32), gk_cgt h1)) else none) = some (gI (cdN E1 out), gk_cgt h1) ∧ ∀ T, A T := by
  intro E h1 e
  have e1 := hx E e
  refine ⟨?_, hA E e⟩
  rw [e, e1, if_pos rfl, cdN_1]
  rfl
/-- two are -/
theorem gl_h2 {α : Type} {out : Sum α String} {E1 E2 : String} {A : gv_S → Prop} (hne : E2 ≠ E1) (hx : ∀ E, out = .inr E → E = E1 ∨ E = E2) (hA : ∀ E, out = .inr E → ∀ T, A T) : ∀ E h1, out = .inr E → (if E = E1 then (gk_let (some h1.1) fun _ : Option Nat => some ((1 : Int32), gk_cgt h1)) else if E = E2 then (gk_let (some h1.1) fun _ : Option Nat => some ((2 : Int32), gk_cgt h1)) else none) = some (gI (cdN E1 out), gk_cgt h1) ∧ ∀ T, A T := by
  intro E h1 e
  refine ⟨?_, hA E e⟩
  rcases hx E e with e1 | e1
  · rw [e, e1, if_pos rfl, cdN_1]
    rfl
  · rw [e, e1, if_neg hne, if_pos rfl, cdN_2 hne]
    rfl
theorem gl_gU {out : Sum Unit String} : ∀ (v : Unit) (h1 : gk_H) (S1 : gv_S), out = .inl v → ∃ S2 : gv_S, (fun (_ : Unit) h1 => some ((0 : Int32), h1)) v (gv_ov h1 S1) = some ((0 : Int32), gv_ov h1 S2) ∧ S2.1 = S1.1 ∧ S2.2.2.1 = S1.2.2.1 ∧ (∀ a c, a ≤ 41 → S2.2.1 a c = S1.2.1 a c) ∧ (fun _ : gv_S => True) S2 :=
  fun _ _ S1 _ => ⟨S1, rfl, rfl, rfl, fun _ _ _ => rfl, trivial⟩
/-- what is answered, in the place for ints -/
def aI (out : Sum Int32 String) (T : gv_S) : Prop := ∀ v, out = .inl v → T.2.2.2 = Int32.toInt64 v
def aD (out : Sum UInt64 String) (T : gv_S) : Prop := ∀ v, out = .inl v → T.2.1 43 0 = v
theorem gl_gI {out : Sum Int32 String} : ∀ (v : Int32) (h1 : gk_H) (S1 : gv_S), out = .inl v → ∃ S2 : gv_S, (fun (x1 : Int32) h1 => (gk_ast h1 (some 42) 2 (0 : Int32) (.long (Int32.toInt64 x1))).bind fun h2 => some ((0 : Int32), h2)) v (gv_ov h1 S1) = some ((0 : Int32), gv_ov h1 S2) ∧ S2.1 = S1.1 ∧ S2.2.2.1 = S1.2.2.1 ∧ (∀ a c, a ≤ 41 → S2.2.1 a c = S1.2.1 a c) ∧ aI out S2 := by
  intro v h1 S1 e
  refine ⟨gv_uL S1 (Int32.toInt64 v), gt_42 (Int32.toInt64 v) _, rfl, rfl, fun _ _ _ => rfl, fun w hw => ?_⟩
  rw [e] at hw
  cases hw
  rfl
theorem gl_gD {out : Sum UInt64 String} : ∀ (v : UInt64) (h1 : gk_H) (S1 : gv_S), out = .inl v → ∃ S2 : gv_S, (fun (x1 : UInt64) h1 => (gk_ast h1 (some 43) 6 (0 : Int32) (.double x1)).bind fun h2 => some ((0 : Int32), h2)) v (gv_ov h1 S1) = some ((0 : Int32), gv_ov h1 S2) ∧ S2.1 = S1.1 ∧ S2.2.2.1 = S1.2.2.1 ∧ (∀ a c, a ≤ 41 → S2.2.1 a c = S1.2.1 a c) ∧ aD out S2 := by
  intro v h1 S1 e
  refine ⟨gv_uD S1 43 0 v, gt_43 (n := 0) (by decide) v _, rfl, rfl, fun a c ha => ?_, fun w hw => ?_⟩
  · show (if a = 43 ∧ c = 0 then v else S1.2.1 a c) = S1.2.1 a c
    rw [if_neg (by omega)]
  · rw [e] at hw
    cases hw
    show (if 43 = 43 ∧ 0 = 0 then v else S1.2.1 43 0) = v
    rw [if_pos ⟨rfl, rfl⟩]
end GLF
/-! which exceptions there are -/
theorem eST_AR : eST ≠ eAR := by decide
theorem eST_IX : eST ≠ eIX := by decide
theorem eAR_IX : eAR ≠ eIX := by decide
theorem ex_push {L : List gp_V} {V : gp_V} : ∀ E, (sp_push L V).1 = .inr E → E = eST := by
  intro E
  unfold sp_push
  split
  · exact fun e => nomatch e
  · exact fun e => (Sum.inr.inj e).symm
theorem ex_plain {L : List gp_V} {k v : Int32} : ∀ E, (sp_plain L k v).1 = .inr E → E = eAR ∨ E = eST := by
  intro E
  unfold sp_plain
  split
  · exact fun e => Or.inr (ex_push E e)
  · split
    · exact fun e => Or.inr (ex_push E e)
    · split
      · exact fun e => Or.inr (ex_push E e)
      · exact fun e => Or.inl (Sum.inr.inj e).symm
theorem ex_drop {L : List gp_V} : ∀ E, (sp_drop L).1 = .inr E → E = eST := by
  intro E
  unfold sp_drop
  split
  · exact fun e => (Sum.inr.inj e).symm
  · exact fun e => nomatch e
theorem ex_again {L : List gp_V} {d : Int32} : ∀ E, (sp_again L d).1 = .inr E → E = eIX ∨ E = eST := by
  intro E
  unfold sp_again
  split
  · exact fun e => Or.inl (Sum.inr.inj e).symm
  · exact fun e => Or.inr (ex_push E e)
theorem ex_about {L : List gp_V} {d w : Int32} : ∀ E, sp_about L d w = .inr E → E = eIX ∨ E = eAR := by
  intro E
  unfold sp_about
  repeat' split
  · exact fun e => Or.inl (Sum.inr.inj e).symm
  · exact fun e => nomatch e
  · exact fun e => nomatch e
  · exact fun e => nomatch e
  · exact fun e => Or.inr (Sum.inr.inj e).symm
theorem ex_cell {L : List gp_V} {d r c w : Int32} : ∀ E, sp_cell L d r c w = .inr E → E = eIX ∨ E = eAR := by
  intro E
  unfold sp_cell
  repeat' split
  all_goals intro e
  all_goals first
    | exact Or.inl (Sum.inr.inj e).symm
    | exact Or.inr (Sum.inr.inj e).symm
    | (cases e; done)
theorem ex_value {L : List gp_V} {d r c : Int32} : ∀ E, sp_value L d r c = .inr E → E = eIX := by
  intro E
  unfold sp_value
  repeat' split
  all_goals intro e
  all_goals first
    | exact (Sum.inr.inj e).symm
    | (cases e; done)
theorem ex_letter {L : List gp_V} {d r c k : Int32} : ∀ E, sp_letter L d r c k = .inr E → E = eIX := by
  intro E
  unfold sp_letter
  repeat' split
  all_goals intro e
  all_goals first
    | exact (Sum.inr.inj e).symm
    | (cases e; done)
theorem ex_text {L : List gp_V} {u : List Nat} : ∀ E, (sp_text L u).1 = .inr E → E = eST := by
  intro E
  unfold sp_text
  repeat' split
  all_goals intro e
  all_goals first
    | exact (Sum.inr.inj e).symm
    | (cases e; done)
theorem ex_array {L : List gp_V} {r c : Int32} : ∀ E, (sp_array L r c).1 = .inr E → E = eAR := by
  intro E
  unfold sp_array
  repeat' split
  all_goals intro e
  all_goals first
    | exact (Sum.inr.inj e).symm
    | (cases e; done)
theorem ex_operate {L : List gp_V} {o : Int32} : ∀ E, (sp_operate L o).1 = .inr E → E = eAR := by
  intro E
  unfold sp_operate
  repeat' split
  all_goals intro e
  all_goals first
    | exact (Sum.inr.inj e).symm
    | (cases e; done)
theorem ex_call {L : List gp_V} {f k : Int32} : ∀ E, (sp_call L f k).1 = .inr E → E = eAR ∨ E = eST := by
  intro E
  unfold sp_call
  repeat' split
  all_goals intro e
  all_goals first
    | exact Or.inl (Sum.inr.inj e).symm
    | exact Or.inr (Sum.inr.inj e).symm
    | (cases e; done)
theorem ex_type {u : List Nat} {w : Int32} : ∀ E, (sp_type u w).1 = .inr E → E = eAR ∨ E = eST := by
  intro E
  unfold sp_type
  repeat' split
  all_goals intro e
  all_goals first
    | exact Or.inl (Sum.inr.inj e).symm
    | exact Or.inr (Sum.inr.inj e).symm
    | (cases e; done)
section GLW
variable {b cap : Nat} {h : gk_H} {S : gv_S} {L : List gp_V} {u : List Nat}
def tT (_ : gv_S) : Prop := True
theorem l_number (q : cs_st b cap h S L u) {x : UInt64} (hx : fd_f x) : wM cap h S (f_L_number (some 16) x (gv_ov h S)) (gI (cdN eST (sp_push L (gV_1 (gc_n x))).1)) (sp_push L (gV_1 (gc_n x))).2 u tT := by
  have t := t_number q hx.n
  rw [gc_num_f ((fd_f_k hx.n).mp hx)] at t
  exact gl_w t (by decide) (by decide) (gl_h1 ex_push fun _ _ _ => trivial) gl_gU
theorem l_type (q : cs_st b cap h S L u) (w : Int32) : wM cap h S (f_L_type (some 16) w (some 42) (gv_ov h S)) (gI (cdN eAR (sp_type u w).1)) L (sp_type u w).2 (aI (sp_type u w).1) :=
  gl_w (t_type q w) (by decide) (by decide) (gl_h2 eST_AR ex_type fun _ e _ v hv => by rw [e] at hv; cases hv) gl_gI
theorem l_text (q : cs_st b cap h S L u) : wM cap h S (f_L_text (some 16) (gv_ov h S)) (gI (cdN eST (sp_text L u).1)) (sp_text L u).2.1 (sp_text L u).2.2 tT :=
  gl_w (t_text q) (by decide) (by decide) (gl_h1 ex_text fun _ _ _ => trivial) gl_gU
theorem l_plain (q : cs_st b cap h S L u) (k v : Int32) : wM cap h S (f_L_plain (some 16) k v (gv_ov h S)) (gI (cdN eAR (sp_plain L k v).1)) (sp_plain L k v).2 u tT :=
  gl_w (t_plain q k v) (by decide) (by decide) (gl_h2 eST_AR ex_plain fun _ _ _ => trivial) gl_gU
theorem l_array (q : cs_st b cap h S L u) (r c : Int32) : wM cap h S (f_L_array (some 16) r c (gv_ov h S)) (gI (cdN eAR (sp_array L r c).1)) (sp_array L r c).2 u tT :=
  gl_w (t_array q r c) (by decide) (by decide) (gl_h1 ex_array fun _ _ _ => trivial) gl_gU
theorem l_operate (q : cs_st b cap h S L u) (o : Int32) : wM cap h S (f_L_operate (some 16) o (gv_ov h S)) (gI (cdN eAR (sp_operate L o).1)) (sp_operate L o).2 u tT :=
  gl_w (t_operate q o) (by decide) (by decide) (gl_h1 ex_operate fun _ _ _ => trivial) gl_gU
theorem l_call (q : cs_st b cap h S L u) (f k : Int32) : wM cap h S (f_L_call (some 16) f k (gv_ov h S)) (gI (cdN eAR (sp_call L f k).1)) (sp_call L f k).2 u tT :=
  gl_w (t_call q f k) (by decide) (by decide) (gl_h2 eST_AR ex_call fun _ _ _ => trivial) gl_gU
theorem l_drop (q : cs_st b cap h S L u) : wM cap h S (f_L_drop (some 16) (gv_ov h S)) (gI (cdN eST (sp_drop L).1)) (sp_drop L).2 u tT :=
  gl_w (t_drop q) (by decide) (by decide) (gl_h1 ex_drop fun _ _ _ => trivial) gl_gU
theorem l_again (q : cs_st b cap h S L u) (d : Int32) : wM cap h S (f_L_again (some 16) d (gv_ov h S)) (gI (cdN eIX (sp_again L d).1)) (sp_again L d).2 u tT :=
  gl_w (t_again q d) (by decide) (by decide) (gl_h2 eST_IX ex_again fun _ _ _ => trivial) gl_gU
theorem l_about (q : cs_st b cap h S L u) (d w : Int32) : wM cap h S (f_L_about (some 16) d w (some 42) (gv_ov h S)) (gI (cdN eIX (sp_about L d w))) L u (aI (sp_about L d w)) :=
  gl_w (t_about q d w) (by decide) (by decide) (gl_h2 eAR_IX ex_about fun _ e _ v hv => by rw [e] at hv; cases hv) gl_gI
theorem l_cell (q : cs_st b cap h S L u) (d r c w : Int32) : wM cap h S (f_L_cell (some 16) d r c w (some 42) (gv_ov h S)) (gI (cdN eIX (sp_cell L d r c w))) L u (aI (sp_cell L d r c w)) :=
  gl_w (t_cell q d r c w) (by decide) (by decide) (gl_h2 eAR_IX ex_cell fun _ e _ v hv => by rw [e] at hv; cases hv) gl_gI
theorem l_value (q : cs_st b cap h S L u) (d r c : Int32) : wM cap h S (f_L_value (some 16) d r c (some 43) (gv_ov h S)) (gI (cdN eIX (sp_value L d r c))) L u (aD (sp_value L d r c)) :=
  gl_w (t_value q d r c) (by decide) (by decide) (gl_h1 ex_value fun _ e _ v hv => by rw [e] at hv; cases hv) gl_gD
theorem l_letter (q : cs_st b cap h S L u) (d r c k : Int32) : wM cap h S (f_L_letter (some 16) d r c k (some 42) (gv_ov h S)) (gI (cdN eIX (sp_letter L d r c k))) L u (aI (sp_letter L d r c k)) :=
  gl_w (t_letter q d r c k) (by decide) (by decide) (gl_h1 ex_letter fun _ e _ v hv => by rw [e] at hv; cases hv) gl_gI
end GLW
