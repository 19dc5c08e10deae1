/-! CONTRACTS, CALLS, ENDS -/
def gk_ws (y : MethodName) (cc : ByteArray) (nL : Nat) (ret : Option FieldType) : List Cond := Cond.code y cc nL ret :: gk_T
def gk_rm (d mc ms : Nat) : Room := { frames := d, cells := mc, slots := ms, locals := 64 * d }
def gk_B (D : va_G) (ad : Nat → Nat) (B : Nat) (h : gk_H) (U : State) : Prop := gk_R D ad B h U U.heap ∧ gk_N ad U ∧ B ≤ U.heap.size
def gk_Pc (D : va_G) (ad : Nat → Nat) (B : Nat) (as : List Value) (h : gk_H) : Array Value → State → Prop := va_Pc (as.map (gk_v ad)) (gk_B D ad B h)
def gk_Qc (D : va_G) (ad : Nat → Nat) (B n : Nat) (v : Option Value) (h' : gk_H) : Array Value → State → Outcome → State → Prop := fun _ st o t =>
  ∃ ad' : Nat → Nat, (∀ i, i < n → ad' i = ad i) ∧ gk_R D ad' B h' t t.heap ∧ o = .returned (v.map (gk_v ad')) ∧ (∀ w, v = some w → gk_ok h'.1 w) ∧ va_F (fun a => B ≤ a) st t
def gk_XC (D : va_G) (ad : Nat → Nat) (B n : Nat) (E : String) (h' : gk_H) : String → State → State → Prop := fun E' st t =>
  E' = E ∧ ∃ ad' : Nat → Nat, (∀ i, i < n → ad' i = ad i) ∧ gk_R D ad' B h' t t.heap ∧ va_F (fun a => B ≤ a) st t
/-- THE CONTRACT of method y: from these arguments over h it ends so over h' -/
def gk_M (d : Nat) (y : MethodName) (cc : ByteArray) (nL : Nat) (ret : Option FieldType) (as : List Value) (h : gk_H) (o : gk_U) (h' : gk_H) : Prop :=
  h.1 ≤ h'.1 ∧ h.2.1 ≤ h'.2.1 ∧ ∀ (l : Launch) (D : va_G) (ad : Nat → Nat) (B : Nat), l.stackTraces = false → (∀ v ∈ as, gk_ok h.1 v) → match o with
    | .inl v => Met l y (gk_ws y cc nL ret) (gk_rm d (h'.1 - h.1) (h'.2.1 - h.2.1)) (gk_Pc D ad B as h) (gk_Qc D ad B h.1 v h') (h'.1 - h.1) (h'.2.1 - h.2.1) (fun a => B ≤ a)
    | .inr E => vx_Met l y (gk_ws y cc nL ret) (gk_rm d (h'.1 - h.1) (h'.2.1 - h.2.1)) (gk_Pc D ad B as h) (fun _ _ _ _ => False) (gk_XC D ad B h.1 E h') (h'.1 - h.1) (h'.2.1 - h.2.1) (fun a => B ≤ a)
theorem gk_args_map (f : Value → Value) (hf : ∀ v, (f v).category = v.category) : ∀ (as : List Value) (k : Nat), lv_args k (as.map f) = (lv_args k as).map fun q => (q.1, f q.2) := by
  intro as
  induction as with
  | nil => intro k; rfl
  | cons v as ih =>
    intro k
    simp only [List.map_cons, lv_args, ih, hf]
theorem gk_args_mem : ∀ (as : List Value) (k : Nat), ∀ q ∈ lv_args k as, q.2 ∈ as := by
  intro as
  induction as with
  | nil => intro k q hq; cases hq
  | cons v as ih =>
    intro k q hq
    rcases List.mem_cons.mp hq with e | e
    · rw [e]; exact List.mem_cons_self
    · exact List.mem_cons_of_mem _ (ih _ q e)
theorem gk_sl_len (f : Value → Value) (hf : ∀ v, (f v).category = v.category) (as : List Value) : (lg_sl (as.map f)).length = (lg_sl as).length := by
  induction as with
  | nil => rfl
  | cons v as ih =>
    simp only [lg_sl, List.map_cons, List.flatMap_cons, List.length_append, hf] at ih ⊢
    rw [ih]
    by_cases hc : v.category = 2
    · simp [hc]
    · simp [hc]
theorem gk_R.end {D : va_G} {ad : Nat → Nat} {B : Nat} {h : gk_H} {s t : State} {H : Heap} (hr : gk_R D ad B h s H) (hvm : s.vm.Alike t.vm) (ht : t.heap = H) : gk_R D ad B h t t.heap := by
  rw [ht]
  exact hr.moved hvm
theorem gk_MetOf {l : Launch} {y : MethodName} {ws ws' : List Cond} {rm : Room} {Pc : Array Value → State → Prop} {Qc : Array Value → State → Outcome → State → Prop} {mc ms : Nat} {free : Addr → Prop} {cc : ByteArray} {maxL : Nat} {ret : Option FieldType}
    (hy : plainFor y = true) (hw : ws = Cond.code y cc maxL ret :: ws')
    (body : ∀ p e s m args below meth c s₁, BodyLoose p l y (headSpec ws rm) cc maxL ret e s m args below meth c s₁ → c.maxLocals = maxL → Pc args s →
      W p l e (headSpec ws rm).room s m args below meth c s.heap [] 0 0 (MQ below Qc args s mc ms free) (entryFrame m args maxL)) : Met l y ws rm Pc Qc mc ms free := by
  refine MetFree.of_bodySF (code := cc) (maxLocals := maxL) (ret := ret) hy ?_ ?_
  · intro args s m h hn
    obtain ⟨meth, c, h1, h2, h3, h4, h5, h6, -, -⟩ := Cond.code_spec hn (atoms_spec (ws := ws) h _ (by rw [hw]; exact List.mem_cons_self))
    exact ⟨meth, c, h1, h2, h3, h4, h5, h6⟩
  · intro p e s m args below meth c s₁ B hml hP _
    have hh0 : s₁.heap = s.heap := by rw [B.state]; rfl
    obtain ⟨t, a1, o, b1, b2, b3⟩ := body p e s m args below meth c s₁ B hml hP s₁ hh0 (Stand.of_body B)
    exact ⟨t, o, a1, b1, b2, ⟨b3.1, b3.2⟩⟩
theorem gk_vxMetOf {l : Launch} {y : MethodName} {ws ws' : List Cond} {rm : Room} {Pc : Array Value → State → Prop} {Qc : Array Value → State → Outcome → State → Prop} {XC : String → State → State → Prop} {mc ms : Nat} {free : Addr → Prop} {cc : ByteArray} {maxL : Nat} {ret : Option FieldType}
    (hy : plainFor y = true) (hw : ws = Cond.code y cc maxL ret :: ws')
    (body : ∀ p e s m args below meth c s₁, BodyLoose p l y (headSpec ws rm) cc maxL ret e s m args below meth c s₁ → c.maxLocals = maxL → (∀ x ∈ c.exceptionTable.toList, False) → Pc args s →
      W p l e (headSpec ws rm).room s m args below meth c s.heap [] 0 0 (vx_MQ below Qc XC args s mc ms free) (entryFrame m args maxL)) : vx_Met l y ws rm Pc Qc XC mc ms free := by
  refine MetFree.of_bodySF (code := cc) (maxLocals := maxL) (ret := ret) hy ?_ ?_
  · intro args s m h hn
    obtain ⟨meth, c, h1, h2, h3, h4, h5, h6, -, -⟩ := Cond.code_spec hn (atoms_spec (ws := ws) h _ (by rw [hw]; exact List.mem_cons_self))
    exact ⟨meth, c, h1, h2, h3, h4, h5, h6⟩
  · intro p e s m args below meth c s₁ B hml hP _
    have hh0 : s₁.heap = s.heap := by rw [B.state]; rfl
    have ht : ∀ x ∈ c.exceptionTable.toList, False := by
      obtain ⟨meth9, c9, h1, h2, -, -, -, -, h7, -⟩ := Cond.code_spec B.named (atoms_spec (ws := ws) B.pre _ (by rw [hw]; exact List.mem_cons_self))
      cases Option.some.inj (h1.symm.trans B.method)
      cases Option.some.inj (h2.symm.trans (Stand.of_body B).code)
      intro x hx
      rw [Array.isEmpty_iff.mp h7] at hx
      cases hx
    obtain ⟨t, a1, o, b1, b2, b3⟩ := body p e s m args below meth c s₁ B hml ht hP s₁ hh0 (Stand.of_body B)
    exact ⟨t, o, a1, b1, b2, b3⟩
/-- a contract out of a walk -/
theorem gk_M_of {d : Nat} {y : MethodName} {cc : ByteArray} {nL : Nat} {ret : Option FieldType} {as : List Value} {h : gk_H} {o : gk_U} {h' : gk_H} (hy : plainFor y = true) (hn : (lg_sl as).length ≤ nL) (hG : gk_G d y cc nL ret [] 0 (lv_args 0 as) [] h o h') : gk_M d y cc nL ret as h o h' := by
  obtain ⟨g1, g2, g3⟩ := hG
  refine ⟨g1, g2, fun l D ad B hl hok => ?_⟩
  have key : ∀ (Qc : Array Value → State → Outcome → State → Prop) (XC : String → State → State → Prop) (p : Program) (e : Env) (s : State) (m : MethodId) (args : Array Value) (below : List Frame) (meth : Method) (c : Code) (s₁ : State), BodyLoose p l y (headSpec (gk_ws y cc nL ret) (gk_rm d (h'.1 - h.1) (h'.2.1 - h.2.1))) cc nL ret e s m args below meth c s₁ → c.maxLocals = nL → (∀ x ∈ c.exceptionTable.toList, False) → gk_Pc D ad B as h args s → gk_E D ad B h.1 o h' s args Qc XC →
      W p l e (gk_rm d (h'.1 - h.1) (h'.2.1 - h.2.1)) s m args below meth c s.heap [] 0 0 (vx_MQ below Qc XC args s (h'.1 - h.1) (h'.2.1 - h.2.1) (fun a => B ≤ a)) (entryFrame m args nL) := by
    intro Qc XC p e s m args below meth c s₁ Bd hml hnox hP hE
    obtain ⟨rfl, hR, hN, hB⟩ := hP
    have hts := atoms_spec (ws := gk_ws y cc nL ret) Bd.pre
    have hcat := gk_v_cat ad
    have hlen : (lg_sl (as.map (gk_v ad))).length ≤ nL := by rw [gk_sl_len _ hcat]; exact hn
    rw [lg_entry_eq]
    refine g3 p l e (gk_rm d (h'.1 - h.1) (h'.2.1 - h.2.1)) s m _ below meth c s.heap [] 0 0 _ D ad B h.1 h.2.1 (h'.1 - h.1) (h'.2.1 - h.2.1) Qc XC ?_ ?_ ?_ ?_ (Nat.sub_add_cancel g1) (Nat.sub_add_cancel g2) hE
    · exact ⟨Bd.exec, Bd.bytes, hml, Bd.returns, findClass_of_methodNamed Bd.named, fun w hw => hts w (List.mem_cons_of_mem _ hw), Bd.notSynchronized, by
        cases hx : c.exceptionTable.toList with
        | nil => rfl
        | cons z zs => exact (hnox z (by rw [hx]; exact List.mem_cons_self)).elim, hl, (name_of_methodNamed Bd.named Bd.method).1, Nat.le_refl _, Nat.le_refl _⟩
    · refine ⟨hR, hN, va_S.rf, ?_, fun q hq => hok _ (gk_args_mem as 0 q hq), (fun v hv => nomatch hv), Nat.zero_add _, Nat.zero_add _, hB⟩
      rw [← gk_args_map _ hcat]
      exact lv_entry (as.map (gk_v ad)) hlen
    · show h'.1 ≤ h'.1 - h.1 + h.1
      omega
    · show h'.2.1 ≤ h'.2.1 - h.2.1 + h.2.1
      omega
  cases o with
  | inl v =>
    refine gk_MetOf (cc := cc) (maxL := nL) (ret := ret) hy rfl ?_
    intro p e s m args below meth c s₁ Bd hml hP
    have hnox : ∀ x ∈ c.exceptionTable.toList, False := by
      obtain ⟨meth9, c9, h1, h2, -, -, -, -, h7, -⟩ := Cond.code_spec Bd.named (atoms_spec (ws := gk_ws y cc nL ret) Bd.pre _ List.mem_cons_self)
      cases Option.some.inj (h1.symm.trans Bd.method)
      cases Option.some.inj (h2.symm.trans (Stand.of_body Bd).code)
      intro x hx
      rw [Array.isEmpty_iff.mp h7] at hx
      cases hx
    have kw := key (gk_Qc D ad B h.1 v h') (fun _ _ _ => False) p e s m args below meth c s₁ Bd hml hnox hP (fun ad' t hA hR hvm hF hok' => ⟨ad', hA, hR, rfl, hok', hF⟩)
    intro T hT X
    obtain ⟨t, a1, o, b1, b2, b3⟩ := kw T hT X
    refine ⟨t, a1, o, b1, b2, ?_⟩
    rcases b3 with b3 | ⟨q, -, E, ce, L, b4, -⟩
    · exact b3
    · exact b4.elim
  | inr E =>
    refine gk_vxMetOf (cc := cc) (maxL := nL) (ret := ret) hy rfl ?_
    intro p e s m args below meth c s₁ Bd hml hnox hP
    exact key (fun _ _ _ _ => False) (gk_XC D ad B h.1 E h') p e s m args below meth c s₁ Bd hml hnox hP (fun ad' t hA hR hvm hF => ⟨rfl, ad', hA, hR, hF⟩)
theorem gk_M_of2 {d : Nat} {y : MethodName} {cc : ByteArray} {nL : Nat} {ret : Option FieldType} {as : List Value} {L : List (Nat × Value)} {h : gk_H} {o : gk_U} {h' : gk_H} (hy : plainFor y = true) (hL : lv_args 0 as = L) (hn : (lg_sl as).length ≤ nL) (hG : gk_G d y cc nL ret [] 0 L [] h o h') : gk_M d y cc nL ret as h o h' := by
  subst hL
  exact gk_M_of hy hn hG
section GKE
variable {ρ : Type} {w : ρ → gk_U} {d : Nat} {y : MethodName} {cc : ByteArray} {nL : Nat} {ret : Option FieldType} {et : List ExceptionTableEntry} {x : Option (ρ × gk_H)} {pc : Nat} {L : List (Nat × Value)} {st : List Value} {h : gk_H}
/-- an end with a value: the kit's row for the kind is given -/
theorem gk_endV {r : ρ} {v : Option Value} (hw : w r = .inl v)
    (hW : ∀ (p : Program) (l : Launch) (e : Env) (R : Room) (s : State) (m : MethodId) (args : Array Value) (below : List Frame) (meth : Method) (c : Code) (H : Heap) (locs : List Loc) (cells slots : Nat) (ls : Array Slot) (ad : Nat → Nat) (B : Nat) (Qc : Array Value → State → Outcome → State → Prop), gk_Cx p l R s m args meth c y cc nL ret et d → (∀ t : State, t.heap = H → s.WarmedH t.vm → Qc args s (.returned (v.map (gk_v ad))) t) → (∀ q ∈ locs, B ≤ q.base) →
      W p l e R s m args below meth c H locs cells slots (MQ below Qc args s cells slots (fun a => B ≤ a)) (F0 m pc ls (v.toList.map (gk_v ad)))) : gk_P w d y cc nL ret et (some (r, h)) pc L v.toList h := by
  intro rr h' hx
  cases hx
  refine ⟨Nat.le_refl _, Nat.le_refl _, fun p l e R s m args below meth c H locs cells slots ls D ad B n0 u0 mc ms Qc XC C S r1 r2 r3 r4 E => ?_⟩
  obtain ⟨s1, s2, s3, s4, s5, s6, s7, s8, s9⟩ := S
  have ec : cells = mc := by omega
  have es : slots = ms := by omega
  subst ec; subst es
  refine vx_ret (hW p l e R s m args below meth c H locs cells slots ls ad B Qc C (fun t ht hWm => ?_) s3.2.2)
  have h9 := E ad t (fun _ _ => rfl) (s1.end hWm.alike ht) hWm.alike (s3.F ht)
  rw [hw] at h9
  refine h9 fun z hz => s6 z ?_
  rw [hz]
  exact List.mem_cons_self
theorem gk_iret {r : ρ} {v : Int32} (hw : w r = .inl (some (.int v))) (hd : decode cc pc = .ok (.ireturn, 1)) (hret : ret = some .int) : gk_P w d y cc nL ret et (some (r, h)) pc L [.int v] h :=
  gk_endV hw fun p l e R s m args below meth c H locs cells slots ls ad B Qc C hq hf => W.iret C.1 C.2.1 (C.2.2.2.1.trans hret) hq hf hd (hlocks := C.2.2.2.2.2.2.1)
/-- .. of a kind that keeps less of an int: only what it keeps -/
theorem gk_zret {r : ρ} {v : Int32} {ty : FieldType} (hw : w r = .inl (some (.int v))) (hd : decode cc pc = .ok (.ireturn, 1)) (hret : ret = some ty) : gk_P w d y cc nL ret et (if narrow ty (.int v) = .int v then some (r, h) else none) pc L [.int v] h := by
  by_cases hn : narrow ty (.int v) = .int v
  · rw [if_pos hn]
    exact gk_endV hw fun p l e R s m args below meth c H locs cells slots ls ad B Qc C hq hf => W.zret C.1 C.2.1 (C.2.2.2.1.trans hret) hn hq hf hd (hlocks := C.2.2.2.2.2.2.1)
  · rw [if_neg hn]
    exact gk_none
theorem gk_lret {r : ρ} {v : Int64} (hw : w r = .inl (some (.long v))) (hd : decode cc pc = .ok (.lreturn, 1)) (hret : ret = some .long) : gk_P w d y cc nL ret et (some (r, h)) pc L [.long v] h :=
  gk_endV hw fun p l e R s m args below meth c H locs cells slots ls ad B Qc C hq hf => W.lret C.1 C.2.1 (C.2.2.2.1.trans hret) hq hf hd (hlocks := C.2.2.2.2.2.2.1)
theorem gk_dret {r : ρ} {v : UInt64} (hw : w r = .inl (some (.double v))) (hd : decode cc pc = .ok (.dreturn, 1)) (hret : ret = some .double) : gk_P w d y cc nL ret et (some (r, h)) pc L [.double v] h :=
  gk_endV hw fun p l e R s m args below meth c H locs cells slots ls ad B Qc C hq hf => W.dret C.1 C.2.1 (C.2.2.2.1.trans hret) hq hf hd (hlocks := C.2.2.2.2.2.2.1)
theorem gk_vret {r : ρ} (hw : w r = .inl none) (hd : decode cc pc = .ok (.return_, 1)) (hret : ret = none) : gk_P w d y cc nL ret et (some (r, h)) pc L [] h :=
  gk_endV (v := none) hw fun p l e R s m args below meth c H locs cells slots ls ad B Qc C hq hf => W.vret C.1 C.2.1 (C.2.2.2.1.trans hret) hq hf hd (hlocks := C.2.2.2.2.2.2.1)
theorem gk_aret {r : ρ} {v : Option Nat} {rt : FieldType} (hw : w r = .inl (some (va_rf v))) (hd : decode cc pc = .ok (.areturn, 1)) (hret : ret = some rt) (hrt : (∃ n, rt = .object n) ∨ ∃ t, rt = .array t) : gk_P w d y cc nL ret et (some (r, h)) pc L [va_rf v] h :=
  gk_endV hw fun p l e R s m args below meth c H locs cells slots ls ad B Qc C hq hf => W.aret C.1 C.2.1 (C.2.2.2.1.trans hret) hrt (by cases v with
    | none => exact Or.inl rfl
    | some a => exact Or.inr ⟨_, rfl⟩) hq hf hd (hlocks := C.2.2.2.2.2.2.1)
end GKE
