/-! WALKS OVER THE ABSTRACT HEAP -/
def gk_upd (h : gk_H) (i : Nat) (o : gk_O) : gk_H := (h.1, h.2.1, fun j => if j = i then o else h.2.2 j)
def gk_new (h : gk_H) (n : Nat) (o : gk_O) : gk_H := (h.1 + 1, h.2.1 + n, fun j => if j = h.1 then o else h.2.2 j)
def gk_put (f : Nat → Value) (k : Nat) (v : Value) : Nat → Value := fun j => if j = k then v else f j
theorem gk_lv_ne {t : Nat} (h : gk_lv t = true) : t ≠ 0 := by
  intro e
  rw [e] at h
  cases h
theorem gk_arr.agree {ad ad' : Nat → Nat} {s : State} {cell : Cell} {ty : FieldType} {o : gk_O} {n : Nat} (hA : ∀ i, i < n → ad' i = ad i) (hk : ∀ k, k < o.2.1 → gk_ok n (o.2.2 k)) (h : gk_arr ad s cell ty o) : gk_arr ad' s cell ty o := by
  obtain ⟨h1, h2, h3, h4, h5, h6⟩ := h
  exact ⟨h1, h2, h3, h4, fun j hj => by rw [gk_v_ok hA (hk j hj)]; exact h5 j hj, h6⟩
theorem gk_obj.agree {D : va_G} {ad ad' : Nat → Nat} {i : Nat} {cell : Cell} {o : gk_O} {n : Nat} (hA : ∀ i, i < n → ad' i = ad i) (hk : ∀ k, k < o.2.1 → gk_ok n (o.2.2 k)) (h : gk_obj D ad i cell o) : gk_obj D ad' i cell o := by
  obtain ⟨h0, r, h1, h2, h3, h4, h5, h6, h7⟩ := h
  exact ⟨h0, r, h1, h2, h3, h4, h5, h6, fun k hk2 => by rw [gk_v_ok hA (hk k (by rw [h2]; exact hk2))]; exact h7 k hk2⟩
theorem gk_at.agree {D : va_G} {ad ad' : Nat → Nat} {s : State} {H : Heap} {i : Nat} {o : gk_O} {n : Nat} (hA : ∀ i, i < n → ad' i = ad i) (hi : i < n) (hk : ∀ k, k < o.2.1 → gk_ok n (o.2.2 k)) (h : gk_at D ad s H i o) : gk_at D ad' s H i o := by
  unfold gk_at at h ⊢
  rw [hA i hi]
  split
  · rename_i ty e
    rw [e] at h
    obtain ⟨cell, h1, h2⟩ := h
    exact ⟨cell, h1, h2.1.agree hA hk, h2.2⟩
  · rename_i e
    rw [e] at h
    obtain ⟨cell, h1, h2⟩ := h
    exact ⟨cell, h1, h2.agree hA hk⟩
theorem gk_Z.agree {ad ad' : Nat → Nat} {B n : Nat} {f : Nat → Value} {s : State} {H : Heap} (hA : ∀ i, i < n → ad' i = ad i) (hk : ∀ k, k < 5 → gk_ok n (f k)) (h : gk_Z ad B f s H) : gk_Z ad' B f s H := by
  refine ⟨fun k q hq => ?_, h.2⟩
  have hk5 : k < 5 := (List.getElem?_eq_some_iff.mp hq).1
  rw [gk_v_ok hA (hk k hk5)]
  exact h.1 k q hq
theorem gk_R.lt {D : va_G} {ad : Nat → Nat} {B : Nat} {h : gk_H} {s : State} {H : Heap} (hr : gk_R D ad B h s H) {i : Nat} (hi : (h.2.2 i).1 ≠ 0) : i < h.1 := by
  rcases Nat.lt_or_ge i h.1 with q | q
  · exact q
  · exact absurd (hr.2.2.1 i q) hi
/-- a thing is changed -/
theorem gk_R.put {D : va_G} {ad : Nat → Nat} {B : Nat} {h : gk_H} {s : State} {H H' : Heap} {i : Nat} {o : gk_O} (hr : gk_R D ad B h s H) (hi : gk_c ≤ i) (hl : gk_lv (h.2.2 i).1 = true) (ht : o.1 = (h.2.2 i).1) (hok : ∀ k, k < o.2.1 → gk_ok h.1 (o.2.2 k)) (hat : gk_at D ad s H' i o) (hz : H'.size = H.size) (hq : ∀ q, q ≠ ad i → H'[q]? = H[q]?) : gk_R D ad B (gk_upd h i o) s H' := by
  obtain ⟨h1, h2, h3, h4, h5, h6, h7, h8, h9, h10, h11⟩ := hr
  have hB : B ≤ ad i := (h4 i hl).mpr hi
  have e : ∀ j, ((gk_upd h i o).2.2 j).1 = (h.2.2 j).1 := by
    intro j
    show (if j = i then o else h.2.2 j).1 = _
    by_cases hj : j = i
    · rw [if_pos hj, hj, ht]
    · rw [if_neg hj]
  have e2 : ∀ j, j ≠ i → (gk_upd h i o).2.2 j = h.2.2 j := fun j hj => if_neg hj
  have e3 : (gk_upd h i o).2.2 i = o := if_pos rfl
  have h0i : (0 : Nat) ≠ i := fun q => by rw [← q] at hi; exact absurd hi (by decide)
  refine ⟨fun j hj => ?_, fun a b ha hb la lb => ?_, fun j hj => by rw [e]; exact h3 j hj, fun j hj => by rw [e] at hj; exact h4 j hj, fun j k hj hk => ?_, by rw [hz]; exact h6, h7, by rw [e]; exact h8, ?_, h10, ?_⟩
  · by_cases hji : j = i
    · subst hji
      rw [e3]
      exact hat
    · rw [e] at hj
      rw [e2 j hji]
      refine (h1 j hj).kept (hq _ fun q => ?_)
      by_cases hjc : gk_c ≤ j
      · exact hji (h2 j i hjc hi hj hl q)
      · exact hjc ((h4 j hj).mp (by rw [q]; exact hB))
  · rw [e] at la lb
    exact h2 a b ha hb la lb
  · by_cases hji : j = i
    · subst hji
      rw [e3] at hk ⊢
      exact hok k hk
    · rw [e] at hj
      rw [e2 j hji] at hk ⊢
      exact h5 j k hj hk
  · rw [e2 0 h0i]; exact h9
  · rw [e2 0 h0i]
    exact h11.kept (fun a _ ha => hq a fun q => by rw [q] at ha; omega)
/-- a thing is made -/
theorem gk_R.new {D : va_G} {ad : Nat → Nat} {B n : Nat} {h : gk_H} {s : State} {H H' : Heap} {o : gk_O} (hr : gk_R D ad B h s H) (hok : ∀ k, k < o.2.1 → gk_ok h.1 (o.2.2 k)) (hat : o.1 ≠ 0 → gk_at D (fun j => if j = h.1 then H.size else ad j) s H' h.1 o) (h9 : o.1 ≠ 9) (hz : H'.size = H.size + 1) (hq : ∀ q, q < H.size → H'[q]? = H[q]?) :
    gk_R D (fun j => if j = h.1 then H.size else ad j) B (gk_new h n o) s H' := by
  obtain ⟨h1, h2, h3, h4, h5, h6, h7, h8, h99, h10, h11⟩ := id hr
  have hA : ∀ i, i < h.1 → (fun j => if j = h.1 then H.size else ad j) i = ad i := fun i hi => if_neg (Nat.ne_of_lt hi)
  have hN : (fun j => if j = h.1 then H.size else ad j) h.1 = H.size := if_pos rfl
  have e2 : ∀ j, j ≠ h.1 → (gk_new h n o).2.2 j = h.2.2 j := fun j hj => if_neg hj
  have e3 : (gk_new h n o).2.2 h.1 = o := if_pos rfl
  have e1 : (gk_new h n o).1 = h.1 + 1 := rfl
  have h0i : (0 : Nat) ≠ h.1 := fun q => by rw [← q] at h7; exact absurd h7 (by decide)
  have lt : ∀ {j}, gk_lv (h.2.2 j).1 = true → j < h.1 := fun hj => hr.lt (gk_lv_ne hj)
  have adlt : ∀ {j}, gk_lv (h.2.2 j).1 = true → ad j < H.size := fun hj => (h1 _ hj).lt
  refine ⟨fun j hj => ?_, fun a b ha hb la lb hab => ?_, fun j hj => ?_, fun j hj => ?_, fun j k hj hk => ?_, by rw [hz]; omega, by rw [e1]; omega, ?_, ?_, h10, ?_⟩
  · by_cases hji : j = h.1
    · subst hji
      rw [e3] at hj ⊢
      exact hat (gk_lv_ne hj)
    · rw [e2 j hji] at hj ⊢
      refine ((h1 j hj).kept (hq _ (adlt hj))).agree hA (lt hj) (fun k hk => h5 j k (gk_lv_ne hj) hk)
  · by_cases ha1 : a = h.1
    · by_cases hb1 : b = h.1
      · rw [ha1, hb1]
      · rw [e2 b hb1] at lb
        have := adlt lb
        rw [ha1, hN, hA b (lt lb)] at hab
        omega
    · rw [e2 a ha1] at la
      by_cases hb1 : b = h.1
      · have := adlt la
        rw [hb1, hN, hA a (lt la)] at hab
        omega
      · rw [e2 b hb1] at lb
        rw [hA a (lt la), hA b (lt lb)] at hab
        exact h2 a b ha hb la lb hab
  · rw [e1] at hj
    rw [e2 j (by omega)]
    exact h3 j (by omega)
  · by_cases hji : j = h.1
    · subst hji
      rw [hN]
      exact ⟨fun _ => h7, fun _ => h6⟩
    · rw [e2 j hji] at hj
      rw [hA j (lt hj)]
      exact h4 j hj
  · rw [e1]
    by_cases hji : j = h.1
    · subst hji
      rw [e3] at hk ⊢
      exact (hok k hk).mono (Nat.le_succ _)
    · rw [e2 j hji] at hj hk ⊢
      exact (h5 j k hj hk).mono (Nat.le_succ _)
  · rw [e2 0 h0i]; exact h8
  · rw [e2 0 h0i]; exact h99
  · rw [e2 0 h0i]
    exact (h11.agree hA (fun k hk => h5 0 k (by rw [h8]; decide) (by rw [h99]; exact hk))).kept (fun a ha _ => hq a ha)
/-- what stands round a walk -/
def gk_Cx (p : Program) (l : Launch) (R : Room) (s : State) (m : MethodId) (args : Array Value) (meth : Method) (c : Code) (y : MethodName) (cc : ByteArray) (nL : Nat) (ret : Option FieldType) (et : List ExceptionTableEntry) (d : Nat) : Prop :=
  p.tables.exec = Jvm.exec ∧ c.code = cc ∧ c.maxLocals = nL ∧ meth.sig.returnType = ret ∧ s.vm.findClass y.cls = some m.cls ∧ (∀ w ∈ gk_T, w.before args s = true) ∧ meth.locks = false ∧ c.exceptionTable.toList = et ∧ l.stackTraces = false ∧ meth.name = y.name ∧ d ≤ R.frames ∧ 64 * d ≤ R.locals
def gk_S (D : va_G) (ad : Nat → Nat) (B n0 u0 nL : Nat) (L : List (Nat × Value)) (st : List Value) (h : gk_H) (s : State) (H : Heap) (locs : List Loc) (cells slots : Nat) (ls : Array Slot) : Prop :=
  gk_R D ad B h s H ∧ gk_N ad s ∧ va_S (fun a => B ≤ a) s.heap H locs ∧ lv_has ls nL (L.map fun q => (q.1, gk_v ad q.2)) ∧ (∀ q ∈ L, gk_ok h.1 q.2) ∧ (∀ v ∈ st, gk_ok h.1 v) ∧ cells + n0 = h.1 ∧ slots + u0 = h.2.1 ∧ B ≤ s.heap.size
/-- what the end owes -/
def gk_E (D : va_G) (ad : Nat → Nat) (B n : Nat) (o : gk_U) (h' : gk_H) (s : State) (args : Array Value) (Qc : Array Value → State → Outcome → State → Prop) (XC : String → State → State → Prop) : Prop :=
  ∀ (ad' : Nat → Nat) (t : State), (∀ i, i < n → ad' i = ad i) → gk_R D ad' B h' t t.heap → s.vm.Alike t.vm → va_F (fun a => B ≤ a) s t → match o with
    | .inl v => (∀ w, v = some w → gk_ok h'.1 w) → Qc args s (.returned (v.map (gk_v ad'))) t
    | .inr E => XC E s t
theorem gk_E.mono {D : va_G} {ad ad1 : Nat → Nat} {B n n1 : Nat} {o : gk_U} {h' : gk_H} {s : State} {args : Array Value} {Qc : Array Value → State → Outcome → State → Prop} {XC : String → State → State → Prop} (hA : ∀ i, i < n → ad1 i = ad i) (hn : n ≤ n1) (h : gk_E D ad B n o h' s args Qc XC) : gk_E D ad1 B n1 o h' s args Qc XC :=
  fun ad' t h1 => h ad' t (fun i hi => (h1 i (Nat.lt_of_lt_of_le hi hn)).trans (hA i hi))
/-- FROM HERE, over the heap h, the method ends so, over the heap h' -/
def gk_G (d : Nat) (y : MethodName) (cc : ByteArray) (nL : Nat) (ret : Option FieldType) (et : List ExceptionTableEntry) (pc : Nat) (L : List (Nat × Value)) (st : List Value) (h : gk_H) (o : gk_U) (h' : gk_H) : Prop :=
  h.1 ≤ h'.1 ∧ h.2.1 ≤ h'.2.1 ∧ ∀ (p : Program) (l : Launch) (e : Env) (R : Room) (s : State) (m : MethodId) (args : Array Value) (below : List Frame) (meth : Method) (c : Code) (H : Heap) (locs : List Loc) (cells slots : Nat) (ls : Array Slot)
    (D : va_G) (ad : Nat → Nat) (B n0 u0 mc ms : Nat) (Qc : Array Value → State → Outcome → State → Prop) (XC : String → State → State → Prop), gk_Cx p l R s m args meth c y cc nL ret et d → gk_S D ad B n0 u0 nL L st h s H locs cells slots ls →
    h'.1 ≤ R.cells + n0 → h'.2.1 ≤ R.slots + u0 → mc + n0 = h'.1 → ms + u0 = h'.2.1 → gk_E D ad B h.1 o h' s args Qc XC →
    W p l e R s m args below meth c H locs cells slots (vx_MQ below Qc XC args s mc ms (fun a => B ≤ a)) (F0 m pc ls (st.map (gk_v ad)))
def gk_P {ρ : Type} (w : ρ → gk_U) (d : Nat) (y : MethodName) (cc : ByteArray) (nL : Nat) (ret : Option FieldType) (et : List ExceptionTableEntry) (x : Option (ρ × gk_H)) (pc : Nat) (L : List (Nat × Value)) (st : List Value) (h : gk_H) : Prop :=
  ∀ r h', x = some (r, h') → gk_G d y cc nL ret et pc L st h (w r) h'
section GKP
variable {ρ : Type} {w : ρ → gk_U} {d : Nat} {y : MethodName} {cc : ByteArray} {nL : Nat} {ret : Option FieldType} {et : List ExceptionTableEntry} {x : Option (ρ × gk_H)} {pc pc' : Nat} {L L' : List (Nat × Value)} {st st' : List Value} {h : gk_H}
/-- a step that leaves heap and locals alone -/
theorem gk_step (hok : ∀ n, (∀ q ∈ L, gk_ok n q.2) → (∀ v ∈ st, gk_ok n v) → ∀ v ∈ st', gk_ok n v)
    (hW : ∀ (p : Program) (l : Launch) (e : Env) (R : Room) (s : State) (m : MethodId) (args : Array Value) (below : List Frame) (meth : Method) (c : Code) (H : Heap) (locs : List Loc) (cells slots : Nat) (ls : Array Slot) (Q : State → Prop) (ad : Nat → Nat), gk_Cx p l R s m args meth c y cc nL ret et d → lv_has ls nL (L.map fun q => (q.1, gk_v ad q.2)) →
      W p l e R s m args below meth c H locs cells slots Q (F0 m pc' ls (st'.map (gk_v ad))) → W p l e R s m args below meth c H locs cells slots Q (F0 m pc ls (st.map (gk_v ad))))
    (k : gk_P w d y cc nL ret et x pc' L st' h) : gk_P w d y cc nL ret et x pc L st h := by
  intro r h' hx
  obtain ⟨k1, k2, k3⟩ := k r h' hx
  refine ⟨k1, k2, fun p l e R s m args below meth c H locs cells slots ls D ad B n0 u0 mc ms Qc XC C S r1 r2 r3 r4 E => ?_⟩
  obtain ⟨s1, s2, s3, s4, s5, s6, s7, s8, s9⟩ := S
  exact hW p l e R s m args below meth c H locs cells slots ls _ ad C s4 (k3 p l e R s m args below meth c H locs cells slots ls D ad B n0 u0 mc ms Qc XC C ⟨s1, s2, s3, s4, s5, hok _ s5 s6, s7, s8, s9⟩ r1 r2 r3 r4 E)
/-- fewer locals told -/
theorem gk_weak (ks : List Nat) (hl : lv_pick L ks = L') (k : gk_P w d y cc nL ret et x pc L' st h) : gk_P w d y cc nL ret et x pc L st h := by
  intro r h' hx
  obtain ⟨k1, k2, k3⟩ := k r h' hx
  refine ⟨k1, k2, fun p l e R s m args below meth c H locs cells slots ls D ad B n0 u0 mc ms Qc XC C S r1 r2 r3 r4 E => ?_⟩
  obtain ⟨s1, s2, s3, s4, s5, s6, s7, s8, s9⟩ := S
  have hsub : ∀ q ∈ L', q ∈ L := by
    intro q hq
    rw [← hl] at hq
    obtain ⟨k, -, hk⟩ := List.mem_filterMap.mp hq
    exact List.mem_of_getElem? hk
  refine k3 p l e R s m args below meth c H locs cells slots ls D ad B n0 u0 mc ms Qc XC C ⟨s1, s2, s3, ⟨s4.1, s4.2.1, fun q hq => s4.2.2 q ?_⟩, fun q hq => s5 q (hsub q hq), s6, s7, s8, s9⟩ r1 r2 r3 r4 E
  obtain ⟨q0, hq0, rfl⟩ := List.mem_map.mp hq
  exact List.mem_map.mpr ⟨q0, hsub q0 hq0, rfl⟩
/-- a named value -/
def gk_let {α β : Type} (v : α) (f : α → β) : β := f v
theorem gk_name {α : Type} {v : α} {f : α → Option (ρ × gk_H)} (k : gk_P w d y cc nL ret et (f v) pc L st h) : gk_P w d y cc nL ret et (gk_let v f) pc L st h := k
theorem gk_ite {c : Prop} {ic : Decidable c} {a b : Option (ρ × gk_H)} (ka : c → gk_P w d y cc nL ret et a pc L st h) (kb : ¬ c → gk_P w d y cc nL ret et b pc L st h) : gk_P w d y cc nL ret et (if c then a else b) pc L st h := by
  by_cases hc : c
  · rw [if_pos hc]; exact ka hc
  · rw [if_neg hc]; exact kb hc
theorem gk_bind {α : Type} {o : Option α} {f : α → Option (ρ × gk_H)} (k : ∀ v, o = some v → gk_P w d y cc nL ret et (f v) pc L st h) : gk_P w d y cc nL ret et (o.bind f) pc L st h := by
  cases o with
  | none => intro r h' hx; cases hx
  | some v => exact k v rfl
theorem gk_none : gk_P w d y cc nL ret et none pc L st h := fun r h' hx => by cases hx
end GKP
