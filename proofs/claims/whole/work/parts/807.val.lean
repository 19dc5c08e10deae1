/-! THE PURE PART: values -/
/-- a single value: its kind, its truth or error, its number, its characters -/
abbrev gp_C : Type := Nat × Nat × UInt64 × List Nat
/-- a value: its kind, its rows and columns, its cells -/
abbrev gp_V : Type := Nat × Nat × Nat × (Nat → gp_C)
def gp_okC (v : gp_C) : Prop := v.1 ≤ 4 ∧ fd_f v.2.2.1 ∧ fd_c v.2.2.1 = v.2.2.1 ∧ (v.1 ≠ 1 → v.2.2.1 = 0) ∧ (v.1 = 3 → v.2.1 ≤ 1) ∧ (v.1 = 4 → 1 ≤ v.2.1 ∧ v.2.1 ≤ 8) ∧ (v.1 ≠ 3 → v.1 ≠ 4 → v.2.1 = 0) ∧ (v.1 ≠ 2 → v.2.2.2 = []) ∧ v.2.2.2.length ≤ 255 ∧ ∀ c ∈ v.2.2.2, 32 ≤ c ∧ c ≤ 126
def gp_okV (V : gp_V) : Prop := 1 ≤ V.2.1 ∧ 1 ≤ V.2.2.1 ∧ V.2.1 * V.2.2.1 ≤ 16 ∧ (∀ k, k < V.2.1 * V.2.2.1 → gp_okC (V.2.2.2 k)) ∧ (V.1 = 5 ∨ V.1 = (V.2.2.2 0).1 ∧ V.2.1 = 1 ∧ V.2.2.1 = 1)
def gc_0 : gp_C := (0, 0, 0, [])
def gc_n (x : UInt64) : gp_C := (1, 0, fd_c x, [])
def gc_t (l : List Nat) : gp_C := (2, 0, 0, l)
def gc_b (t : Bool) : gp_C := (3, if t then 1 else 0, 0, [])
def gc_e (e : Nat) : gp_C := (4, e, 0, [])
/-- a single value as a value -/
def gV_1 (v : gp_C) : gp_V := (v.1, 1, 1, fun _ => v)
/-- what a number reckoned becomes -/
def gc_num (x : UInt64) : gp_C := if -9218868437227405311 ≤ fd_k x ∧ fd_k x ≤ 9218868437227405311 then gc_n x else gc_e 6
/-- what a text made becomes -/
def gc_txt (l : List Nat) : gp_C := if l.length ≤ 255 then gc_t l else gc_e 3
theorem gp_ok0 : gp_okC gc_0 := ⟨by decide, fd_f0, rfl, fun _ => rfl, fun h => absurd h (by decide), fun h => absurd h (by decide), fun _ _ => rfl, fun _ => rfl, by decide, fun c hc => absurd hc List.not_mem_nil⟩
theorem gp_okn {x : UInt64} (h : fd_f x) : gp_okC (gc_n x) := ⟨by show (1 : Nat) ≤ 4; decide, fd_fc h, fd_cc x, fun h => absurd rfl h, fun h => absurd h (by show ¬ ((1 : Nat) = 3); decide), fun h => absurd h (by show ¬ ((1 : Nat) = 4); decide), fun _ _ => rfl, fun _ => rfl, Nat.zero_le _, fun c hc => absurd hc List.not_mem_nil⟩
theorem gp_okt {l : List Nat} (h : l.length ≤ 255) (h2 : ∀ c ∈ l, 32 ≤ c ∧ c ≤ 126) : gp_okC (gc_t l) := ⟨by show (2 : Nat) ≤ 4; decide, fd_f0, rfl, fun _ => rfl, fun h => absurd h (by show ¬ ((2 : Nat) = 3); decide), fun h => absurd h (by show ¬ ((2 : Nat) = 4); decide), fun _ _ => rfl, fun h => absurd rfl h, h, h2⟩
theorem gp_okb (t : Bool) : gp_okC (gc_b t) := ⟨by show (3 : Nat) ≤ 4; decide, fd_f0, rfl, fun _ => rfl, fun _ => by cases t <;> decide, fun h => absurd h (by show ¬ ((3 : Nat) = 4); decide), fun h => absurd rfl h, fun _ => rfl, Nat.zero_le _, fun c hc => absurd hc List.not_mem_nil⟩
theorem gp_oke {e : Nat} (h1 : 1 ≤ e) (h2 : e ≤ 8) : gp_okC (gc_e e) := ⟨by show (4 : Nat) ≤ 4; decide, fd_f0, rfl, fun _ => rfl, fun h => absurd h (by show ¬ ((4 : Nat) = 3); decide), fun _ => ⟨h1, h2⟩, fun _ h => absurd rfl h, fun _ => rfl, Nat.zero_le _, fun c hc => absurd hc List.not_mem_nil⟩
theorem gp_ok1 {v : gp_C} (h : gp_okC v) : gp_okV (gV_1 v) := ⟨Nat.le_refl _, Nat.le_refl _, by show 1 * 1 ≤ 16; decide, fun _ _ => h, Or.inr ⟨rfl, rfl, rfl⟩⟩
theorem gp_oknum {x : UInt64} (h : fd_n x) : gp_okC (gc_num x) := by
  unfold gc_num
  split
  · rename_i e
    exact gp_okn ((fd_f_k h).mpr e)
  · exact gp_oke (by decide) (by decide)
theorem gp_oktxt {l : List Nat} (h : ∀ c ∈ l, 32 ≤ c ∧ c ≤ 126) : gp_okC (gc_txt l) := by
  unfold gc_txt
  split
  · rename_i e
    exact gp_okt e h
  · exact gp_oke (by decide) (by decide)
/-- the fields of a Value -/
def gp_fld (b : Nat) (h : gk_H) (i kind code : Nat) (amt : UInt64) (l : List Nat) (r c : Nat) (cs : Option Nat) : Prop :=
  i < h.1 ∧ gp_im b i ∧ (h.2.2 i).1 = 12 ∧ (h.2.2 i).2.2 0 = .int (gI kind) ∧ (h.2.2 i).2.2 1 = .int (gI code) ∧ (h.2.2 i).2.2 2 = .double amt ∧ (∃ s : Nat, (h.2.2 i).2.2 3 = va_rf (some s) ∧ gp_str b h s l) ∧ (h.2.2 i).2.2 4 = .int (gI r) ∧ (h.2.2 i).2.2 5 = .int (gI c) ∧ (h.2.2 i).2.2 6 = va_rf cs
def gp_cell (b : Nat) (h : gk_H) (i : Nat) (v : gp_C) : Prop := gp_okC v ∧ gp_fld b h i v.1 v.2.1 v.2.2.1 v.2.2.2 1 1 none
def gp_val (b : Nat) (h : gk_H) (i : Nat) (V : gp_V) : Prop :=
  gp_okV V ∧ (V.1 ≠ 5 ∧ gp_cell b h i (V.2.2.2 0) ∨ V.1 = 5 ∧ ∃ a : Nat, gp_fld b h i 5 0 0 [] V.2.1 V.2.2.1 (some a) ∧ a < h.1 ∧ gp_im b a ∧ (h.2.2 a).1 = 7 ∧ (h.2.2 a).2.1 = V.2.1 * V.2.2.1 ∧ ∀ k, k < V.2.1 * V.2.2.1 → ∃ j : Nat, (h.2.2 a).2.2 k = va_rf (some j) ∧ gp_cell b h j (V.2.2.2 k))
theorem gp_fld.keep {b : Nat} {h h' : gk_H} {i kind code : Nat} {amt : UInt64} {l : List Nat} {r c : Nat} {cs : Option Nat} (a : gp_fld b h i kind code amt l r c cs) (hk : gp_keep b h h') : gp_fld b h' i kind code amt l r c cs := by
  obtain ⟨a1, a2, a3, a4, a5, a6, ⟨s, a7, a8⟩, a9⟩ := a
  have e := hk.2 i a1 a2.2.1 a2.2.2
  have h1 := hk.1
  unfold gp_fld
  rw [e]
  exact ⟨by omega, a2, a3, a4, a5, a6, ⟨s, a7, a8.keep hk⟩, a9⟩
theorem gp_cell.keep {b : Nat} {h h' : gk_H} {i : Nat} {v : gp_C} (a : gp_cell b h i v) (hk : gp_keep b h h') : gp_cell b h' i v := ⟨a.1, a.2.keep hk⟩
theorem gp_val.keep {b : Nat} {h h' : gk_H} {i : Nat} {V : gp_V} (a : gp_val b h i V) (hk : gp_keep b h h') : gp_val b h' i V := by
  obtain ⟨a0, a | a⟩ := a
  · exact ⟨a0, Or.inl ⟨a.1, a.2.keep hk⟩⟩
  · obtain ⟨a1, w, a2, a3, a4, a5, a6, a7⟩ := a
    have e := hk.2 w a3 a4.2.1 a4.2.2
    have h1 := hk.1
    refine ⟨a0, Or.inr ⟨a1, w, a2.keep hk, by omega, a4, by rw [e]; exact a5, by rw [e]; exact a6, fun k hk2 => ?_⟩⟩
    obtain ⟨j, b1, b2⟩ := a7 k hk2
    exact ⟨j, by rw [e]; exact b1, b2.keep hk⟩
theorem gp_cell.ext {b c s : Nat} {h h' : gk_H} {i : Nat} {v : gp_C} (a : gp_cell b h i v) (hk : gp_ext c s h h') : gp_cell b h' i v := a.keep (hk.keep b)
theorem gp_val.ext {b c s : Nat} {h h' : gk_H} {i : Nat} {V : gp_V} (a : gp_val b h i V) (hk : gp_ext c s h h') : gp_val b h' i V := a.keep (hk.keep b)
theorem gp_cell.val {b : Nat} {h : gk_H} {i : Nat} {v : gp_C} (a : gp_cell b h i v) : gp_val b h i (gV_1 v) := ⟨gp_ok1 a.1, Or.inl ⟨fun z => by have := a.1.1; have z' : v.1 = 5 := z; omega, a⟩⟩
/-- the constants -/
def gp_cs (b : Nat) (h : gk_H) : Prop := gp_st h ∧ b < h.1 ∧ gp_str b h 4 [] ∧ gp_str b h 6 [84, 82, 85, 69] ∧ gp_str b h 8 [70, 65, 76, 83, 69] ∧ gp_str b h 10 [] ∧ gp_str b h 12 []
theorem gp_cs.ext {b c s : Nat} {h h' : gk_H} (a : gp_cs b h) (hk : gp_ext c s h h') : gp_cs b h' := by
  obtain ⟨a1, a2, a3, a4, a5, a6, a7⟩ := a
  have h1 := hk.1
  exact ⟨a1.ext hk, by omega, a3.ext hk, a4.ext hk, a5.ext hk, a6.ext hk, a7.ext hk⟩
section GPV
variable {b i : Nat} {h : gk_H} {S : gv_S}
/-- a new Value -/
theorem v_init (hs : gp_st h) (hb : b < h.1) {s : Nat} {l : List Nat} (hl : gp_str b h s l) (kind code : Nat) (amt : UInt64) (r c : Nat) (cs : Option Nat) : ∃ h', (∀ {β : Type} (K : Unit → gk_H → Option β), gk_cv (gv_ov (gk_mkO h 2 7) S) (some h.1) 2 (f_Va_init (some h.1) (gI kind) (gI code) amt (some s) (gI r) (gI c) cs (gv_ov (gk_mkO h 2 7) S)) K = K () (gv_ov h' S)) ∧ gp_fld b h' h.1 kind code amt l r c cs ∧ gp_ext 1 7 h h' := by
  have h44 := hs.1
  have fh : gv_fx h.1 = false := gv_fx_hi h44
  have e0 : (gk_mkO h 2 7).2.2 h.1 = (12, 7, fun k => defaultValue (gk_ty 2 k)) := gp_new_at _ _ _
  have e1 : ∀ j, j ≠ h.1 → (gk_mkO h 2 7).2.2 j = h.2.2 j := fun j hj => gp_new_ne _ _ _ _ hj
  let g : Nat → Value := gk_put (gk_put (gk_put (gk_put (gk_put (gk_put (gk_put (fun k => defaultValue (gk_ty 2 k)) 0 (.int (gI kind))) 1 (.int (gI code))) 2 (.double amt)) 3 (va_rf (some s))) 4 (.int (gI r))) 5 (.int (gI c))) 6 (va_rf cs)
  let h' : gk_H := (h.1 + 1, h.2.1 + 7, fun j => if j = h.1 then (12, 7, g) else h.2.2 j)
  have hx : gp_ext 1 7 h h' := ⟨by show h.1 ≤ h.1 + 1; omega, Nat.le_refl _, Nat.le_refl _, fun j hj => if_neg (by omega)⟩
  have ea : h'.2.2 h.1 = (12, 7, g) := if_pos rfl
  refine ⟨h', fun K => ?_, ?_, hx⟩
  · rw [gp_cv fh (by rw [e0])]
    unfold f_Va_init
    simp only [Option.bind_some]
    rw [gp_set fh (by omega) (by rw [e0]) (gv_fitI 2 0 rfl _), e0]
    rw [gp_set fh (by omega) (by rw [gp_upd_at]) (gv_fitI 2 1 rfl _), gp_upd_at]
    rw [gp_set fh (by omega) (by rw [gp_upd_at]) (gv_fitD 2 2 rfl _), gp_upd_at]
    rw [gp_set fh (by omega) (by rw [gp_upd_at]) (gv_fitO 2 3 "java/lang/String" rfl _), gp_upd_at]
    rw [gp_set fh (by omega) (by rw [gp_upd_at]) (gv_fitI 2 4 rfl _), gp_upd_at]
    rw [gp_set fh (by omega) (by rw [gp_upd_at]) (gv_fitI 2 5 rfl _), gp_upd_at]
    rw [gp_set fh (by omega) (by rw [gp_upd_at]) (gv_fitR 2 6 (.object "ValueAlgebra$Value") rfl _), gp_upd_at, gk_ca_some]
    congr 2
    refine gv_ext rfl rfl fun j => ?_
    by_cases ej : j = h.1
    · subst ej
      rw [gp_upd_at]
      exact ea.symm
    · rw [gp_upd_ne _ _ _ _ ej, gp_upd_ne _ _ _ _ ej, gp_upd_ne _ _ _ _ ej, gp_upd_ne _ _ _ _ ej, gp_upd_ne _ _ _ _ ej, gp_upd_ne _ _ _ _ ej, gp_upd_ne _ _ _ _ ej, e1 _ ej]
      exact (if_neg ej).symm
  · unfold gp_fld
    rw [ea]
    exact ⟨by show h.1 < h.1 + 1; omega, gp_im_hi h44 (by omega), rfl, rfl, rfl, rfl, ⟨s, rfl, hl.ext hx⟩, rfl, rfl, rfl⟩
theorem v_none (hc : gp_cs b h) : ∃ r h', f_Va_ofNothing (gv_ov h S) = some (some r, gv_ov h' S) ∧ gp_cell b h' r gc_0 ∧ gp_ext 1 7 h h' := by
  obtain ⟨h', e1, e2, e3⟩ := v_init (S := S) hc.1 hc.2.1 hc.2.2.1 0 0 0 1 1 none
  refine ⟨h.1, h', ?_, ⟨gp_ok0, e2⟩, e3⟩
  unfold f_Va_ofNothing
  rw [gp_nw 7 hc.1.1]
  exact e1 _
theorem v_err (hc : gp_cs b h) (e : Nat) (he : 1 ≤ e) (he2 : e ≤ 8) : ∃ r h', f_Va_ofError (gI e) (gv_ov h S) = some (some r, gv_ov h' S) ∧ gp_cell b h' r (gc_e e) ∧ gp_ext 1 7 h h' := by
  obtain ⟨h', e1, e2, e3⟩ := v_init (S := S) hc.1 hc.2.1 hc.2.2.1 4 e 0 1 1 none
  refine ⟨h.1, h', ?_, ⟨gp_oke he he2, e2⟩, e3⟩
  unfold f_Va_ofError
  rw [gp_nw 7 hc.1.1]
  exact e1 _
theorem v_num (hc : gp_cs b h) {x : UInt64} (hx : fd_n x) : ∃ r h', f_Va_ofNumber x (gv_ov h S) = some (some r, gv_ov h' S) ∧ gp_cell b h' r (gc_num x) ∧ gp_ext 1 7 h h' := by
  unfold f_Va_ofNumber f_Va_ofNumber_b41
  rw [v_isFinite hx, gk_ca_some]
  by_cases e : -9218868437227405311 ≤ fd_k x ∧ fd_k x ≤ 9218868437227405311
  · rw [if_pos e, if_neg (by decide), gp_nw 7 hc.1.1, fi_eq _ _ hx fd_0_n, fd_k0]
    have hg : gc_num x = gc_n x := if_pos e
    rw [hg]
    by_cases z : fd_k x = 0
    · obtain ⟨h', e1, e2, e3⟩ := v_init (S := S) hc.1 hc.2.1 hc.2.2.1 1 0 0 1 1 none
      rw [if_pos z]
      have hn : gc_n x = (1, 0, 0, []) := by
        unfold gc_n fd_c
        rw [if_pos z]
      refine ⟨h.1, h', e1 _, ⟨gp_okn ((fd_f_k hx).mpr e), ?_⟩, e3⟩
      rw [hn]
      exact e2
    · obtain ⟨h', e1, e2, e3⟩ := v_init (S := S) hc.1 hc.2.1 hc.2.2.1 1 0 x 1 1 none
      rw [if_neg z]
      have hn : gc_n x = (1, 0, x, []) := by
        unfold gc_n fd_c
        rw [if_neg z]
      refine ⟨h.1, h', e1 _, ⟨gp_okn ((fd_f_k hx).mpr e), ?_⟩, e3⟩
      rw [hn]
      exact e2
  · have hg : gc_num x = gc_e 6 := if_neg e
    obtain ⟨h', e1, e2, e3⟩ := v_init (S := S) hc.1 hc.2.1 hc.2.2.1 4 6 0 1 1 none
    rw [if_neg e, if_pos rfl, gp_nw 7 hc.1.1, hg]
    exact ⟨h.1, h', e1 _, ⟨gp_oke (by decide) (by decide), e2⟩, e3⟩
theorem v_txt (hc : gp_cs b h) {l : List Nat} (hi : gp_str b h i l) (hl : ∀ c ∈ l, 32 ≤ c ∧ c ≤ 126) : ∃ r h', f_Va_ofText (some i) (gv_ov h S) = some (some r, gv_ov h' S) ∧ gp_cell b h' r (gc_txt l) ∧ gp_ext 1 7 h h' := by
  obtain ⟨-, i2, i3, -, q, -, -, -, -, -, i4, -⟩ := id hi
  unfold f_Va_ofText
  rw [gp_cv i2.1 i3, s_len hc.1 hi, gk_ca_some, gI_lit 255, ite_le _ _ _ _ (by omega) (by decide)]
  by_cases e : l.length ≤ 255
  · have hg : gc_txt l = gc_t l := if_pos e
    obtain ⟨h', e1, e2, e3⟩ := v_init (S := S) hc.1 hc.2.1 hi 2 0 0 1 1 none
    rw [if_pos e, gp_nw 7 hc.1.1, hg]
    exact ⟨h.1, h', e1 _, ⟨gp_okt e hl, e2⟩, e3⟩
  · have hg : gc_txt l = gc_e 3 := if_neg e
    obtain ⟨h', e1, e2, e3⟩ := v_init (S := S) hc.1 hc.2.1 hc.2.2.1 4 3 0 1 1 none
    rw [if_neg e, gp_nw 7 hc.1.1, hg]
    exact ⟨h.1, h', e1 _, ⟨gp_oke (by decide) (by decide), e2⟩, e3⟩
theorem v_tru (hc : gp_cs b h) (t : Bool) : ∃ r h', f_Va_ofTruth (if t then 1 else 0) (gv_ov h S) = some (some r, gv_ov h' S) ∧ gp_cell b h' r (gc_b t) ∧ gp_ext 1 7 h h' := by
  unfold f_Va_ofTruth f_Va_ofTruth_b14
  rw [gp_nw 7 hc.1.1]
  cases t
  · obtain ⟨h', e1, e2, e3⟩ := v_init (S := S) hc.1 hc.2.1 hc.2.2.1 3 0 0 1 1 none
    exact ⟨h.1, h', e1 _, ⟨gp_okb false, e2⟩, e3⟩
  · obtain ⟨h', e1, e2, e3⟩ := v_init (S := S) hc.1 hc.2.1 hc.2.2.1 3 1 0 1 1 none
    exact ⟨h.1, h', e1 _, ⟨gp_okb true, e2⟩, e3⟩
theorem v_cells (hc : gp_cs b h) {V : gp_V} (hV : gp_okV V) (h5 : V.1 = 5) {a : Nat} (ha : a < h.1) (hb : gp_im b a) (ht : (h.2.2 a).1 = 7) (hn : (h.2.2 a).2.1 = V.2.1 * V.2.2.1) (hk : ∀ k, k < V.2.1 * V.2.2.1 → ∃ j : Nat, (h.2.2 a).2.2 k = va_rf (some j) ∧ gp_cell b h j (V.2.2.2 k)) : ∃ r h', f_Va_ofCells (gI V.2.1) (gI V.2.2.1) (some a) (gv_ov h S) = some (some r, gv_ov h' S) ∧ gp_val b h' r V ∧ gp_ext 1 7 h h' := by
  obtain ⟨h', e1, e2, e3⟩ := v_init (S := S) hc.1 hc.2.1 hc.2.2.1 5 0 0 V.2.1 V.2.2.1 (some a)
  have ea := e3.2.2.2 a ha
  refine ⟨h.1, h', ?_, ⟨hV, Or.inr ⟨h5, a, e2, by have := e3.1; omega, hb, by rw [ea]; exact ht, by rw [ea]; exact hn, fun k hk2 => ?_⟩⟩, e3⟩
  · unfold f_Va_ofCells
    rw [gp_nw 7 hc.1.1]
    exact e1 _
  · obtain ⟨j, j1, j2⟩ := hk k hk2
    exact ⟨j, by rw [ea]; exact j1, j2.ext e3⟩
/-- reading a Value -/
theorem gp_val.fld {V : gp_V} (a : gp_val b h i V) : ∃ cs, gp_fld b h i V.1 (if V.1 = 5 then 0 else (V.2.2.2 0).2.1) (if V.1 = 5 then 0 else (V.2.2.2 0).2.2.1) (if V.1 = 5 then [] else (V.2.2.2 0).2.2.2) V.2.1 V.2.2.1 cs := by
  obtain ⟨a0, ⟨a1, a2⟩ | ⟨a1, w, a2, -⟩⟩ := a
  · rcases a0.2.2.2.2 with z | ⟨z1, z2, z3⟩
    · exact absurd z a1
    · refine ⟨none, ?_⟩
      rw [if_neg a1, if_neg a1, if_neg a1, z1, z2, z3]
      exact a2.2
  · refine ⟨some w, ?_⟩
    rw [if_pos a1, if_pos a1, if_pos a1, a1]
    exact a2
section GPVR
variable {β : Type} {kind code : Nat} {amt : UInt64} {l : List Nat} {r c : Nat} {cs : Option Nat}
theorem fl_0 (a : gp_fld b h i kind code amt l r c cs) (K : Int32 → Option β) : ((gk_get (gv_ov h S) (some i) 2 0).bind gk_asI).bind K = K (gI kind) := gp_getI a.2.1.1 a.2.2.1 a.2.2.2.1 K
theorem fl_1 (a : gp_fld b h i kind code amt l r c cs) (K : Int32 → Option β) : ((gk_get (gv_ov h S) (some i) 2 1).bind gk_asI).bind K = K (gI code) := gp_getI a.2.1.1 a.2.2.1 a.2.2.2.2.1 K
theorem fl_2 (a : gp_fld b h i kind code amt l r c cs) (K : UInt64 → Option β) : ((gk_get (gv_ov h S) (some i) 2 2).bind gk_asD).bind K = K amt := gp_getD a.2.1.1 a.2.2.1 a.2.2.2.2.2.1 K
theorem fl_3 (a : gp_fld b h i kind code amt l r c cs) : ∃ s, gp_str b h s l ∧ ∀ {β : Type} (S : gv_S) (K : Option Nat → Option β), ((gk_get (gv_ov h S) (some i) 2 3).bind gk_asR).bind K = K (some s) := by
  obtain ⟨-, a2, a3, -, -, -, ⟨s, a7, a8⟩, -⟩ := a
  exact ⟨s, a8, fun S K => gp_getR a2.1 a3 a7 K⟩
theorem fl_4 (a : gp_fld b h i kind code amt l r c cs) (K : Int32 → Option β) : ((gk_get (gv_ov h S) (some i) 2 4).bind gk_asI).bind K = K (gI r) := gp_getI a.2.1.1 a.2.2.1 a.2.2.2.2.2.2.2.1 K
theorem fl_5 (a : gp_fld b h i kind code amt l r c cs) (K : Int32 → Option β) : ((gk_get (gv_ov h S) (some i) 2 5).bind gk_asI).bind K = K (gI c) := gp_getI a.2.1.1 a.2.2.1 a.2.2.2.2.2.2.2.2.1 K
theorem fl_6 (a : gp_fld b h i kind code amt l r c cs) (K : Option Nat → Option β) : ((gk_get (gv_ov h S) (some i) 2 6).bind gk_asR).bind K = K cs := gp_getR a.2.1.1 a.2.2.1 a.2.2.2.2.2.2.2.2.2 K
theorem fl_cv (a : gp_fld b h i kind code amt l r c cs) {α : Type} (x : Option (α × gk_H)) (K : α → gk_H → Option β) : gk_cv (gv_ov h S) (some i) 2 x K = gk_ca x K := gp_cv a.2.1.1 a.2.2.1 x K
end GPVR
theorem v_many {V : gp_V} (a : gp_val b h i V) : f_Va_howManyCells (some i) (gv_ov h S) = some (gI (V.2.1 * V.2.2.1), gv_ov h S) := by
  obtain ⟨cs, f⟩ := a.fld
  unfold f_Va_howManyCells
  rw [fl_4 f, fl_5 f, gI_mul]
theorem v_at {V : gp_V} (a : gp_val b h i V) (k : Nat) (hk : k < V.2.1 * V.2.2.1) : ∃ j, f_Va_cellAt (some i) (gI k) (gv_ov h S) = some (some j, gv_ov h S) ∧ gp_cell b h j (V.2.2.2 k) := by
  obtain ⟨a0, ⟨a1, a2⟩ | ⟨a1, w, a2, a3, a4, a5, a6, a7⟩⟩ := a
  · rcases a0.2.2.2.2 with z | ⟨z1, z2, z3⟩
    · exact absurd z a1
    · rw [z2, z3] at hk
      have : k = 0 := by omega
      subst this
      refine ⟨i, ?_, a2⟩
      unfold f_Va_cellAt f_Va_cellAt_b20
      rw [fl_6 a2.2, if_pos rfl]
  · obtain ⟨j, j1, j2⟩ := a7 k hk
    have h16 := a0.2.2.1
    refine ⟨j, ?_, j2⟩
    unfold f_Va_cellAt
    rw [fl_6 a2, if_neg (by simp), gI_0, ite_lt _ _ _ _ (by omega) (by decide), if_neg (by omega), fl_6 a2, gp_len a4.1 (by rw [a5]; decide), a6, ite_lt _ _ _ _ (by omega) (by omega), if_pos hk, fl_6 a2, gp_aldR a4.1 a5 (by omega) (by omega) j1]
theorem v_in {V : gp_V} (a : gp_val b h i V) (r c : Nat) (hr : r < V.2.1) (hc : c < V.2.2.1) : ∃ j, f_Va_cellIn (some i) (gI r) (gI c) (gv_ov h S) = some (some j, gv_ov h S) ∧ gp_cell b h j (V.2.2.2 (r * V.2.2.1 + c)) := by
  obtain ⟨cs, f⟩ := a.fld
  have hk : r * V.2.2.1 + c < V.2.1 * V.2.2.1 := by
    have h1 : (r + 1) * V.2.2.1 ≤ V.2.1 * V.2.2.1 := Nat.mul_le_mul_right _ hr
    rw [Nat.add_mul] at h1
    omega
  obtain ⟨j, j1, j2⟩ := v_at (S := S) a _ hk
  refine ⟨j, ?_, j2⟩
  unfold f_Va_cellIn
  rw [fl_5 f, fl_cv f, gI_mul, gI_add, j1, gk_ca_some]
theorem v_shape {j : Nat} {V W : gp_V} (a : gp_val b h i V) (c : gp_val b h j W) : f_Va_isOfShape (some i) (some j) (gv_ov h S) = some (if V.2.1 = W.2.1 ∧ V.2.2.1 = W.2.2.1 then 1 else 0, gv_ov h S) := by
  obtain ⟨cs, f⟩ := a.fld
  obtain ⟨ct, g⟩ := c.fld
  have hb : ∀ U : gp_V, gp_okV U → U.2.1 ≤ 16 ∧ U.2.2.1 ≤ 16 := fun U hU => by
    obtain ⟨u1, u2, u3, -⟩ := hU
    have h1 : U.2.1 * 1 ≤ U.2.1 * U.2.2.1 := Nat.mul_le_mul_left _ u2
    have h2 : 1 * U.2.2.1 ≤ U.2.1 * U.2.2.1 := Nat.mul_le_mul_right _ u1
    omega
  have h1 := hb V a.1
  have h2 := hb W c.1
  unfold f_Va_isOfShape f_Va_isOfShape_b26 f_Va_isOfShape_b27
  rw [fl_4 f, fl_4 g, ite_eq _ _ _ _ (by omega) (by omega), fl_5 f, fl_5 g, ite_eq _ _ _ _ (by omega) (by omega), nb0, nb1]
  by_cases e1 : V.2.1 = W.2.1
  · rw [if_pos e1]
    by_cases e2 : V.2.2.1 = W.2.2.1
    · rw [if_pos e2, if_pos ⟨e1, e2⟩]
    · rw [if_neg e2, if_neg (fun z => e2 z.2)]
  · rw [if_neg e1, if_neg (fun z => e1 z.1)]
theorem gp_ok16 {U : gp_V} (hU : gp_okV U) : U.2.1 ≤ 16 ∧ U.2.2.1 ≤ 16 := by
  obtain ⟨u1, u2, u3, -⟩ := hU
  have h1 : U.2.1 * 1 ≤ U.2.1 * U.2.2.1 := Nat.mul_le_mul_left _ u2
  have h2 : 1 * U.2.2.1 ≤ U.2.1 * U.2.2.1 := Nat.mul_le_mul_right _ u1
  omega
theorem v_line {V : gp_V} (a : gp_val b h i V) : f_Va_isLine (some i) (gv_ov h S) = some (if V.2.1 = 1 ∨ V.2.2.1 = 1 then 1 else 0, gv_ov h S) := by
  obtain ⟨cs, f⟩ := a.fld
  have h1 := gp_ok16 a.1
  unfold f_Va_isLine f_Va_isLine_b16 f_Va_isLine_b21
  rw [fl_4 f, fl_5 f, gI_1, ite_eq _ _ _ _ (by omega) (by decide), ite_eq _ _ _ _ (by omega) (by decide), ← gI_1, nb0, nb1]
  by_cases e1 : V.2.1 = 1
  · rw [if_pos e1, if_pos (Or.inl e1)]
  · rw [if_neg e1]
    by_cases e2 : V.2.2.1 = 1
    · rw [if_pos e2, if_pos (Or.inr e2)]
    · rw [if_neg e2, if_neg (fun z => z.elim e1 e2)]
end GPV
