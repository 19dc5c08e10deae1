/-! an array of bytes cloned -/
def gk_cln {β : Type} (h : gk_H) (a : Option Nat) (f : Option Nat → gk_H → Option β) : Option β := match a with
  | none => none
  | some i => if (h.2.2 i).1 = 3 ∧ gk_c ≤ i ∧ (h.2.2 i).2.1 < 2 ^ 31 ∧ gk_byt (h.2.2 i).2.2 0 (h.2.2 i).2.1 = true then f (some h.1) (gk_new h (h.2.2 i).2.1 (3, (h.2.2 i).2.1, (h.2.2 i).2.2)) else none
section GKCL
variable {p : Program} {l : Launch} {e : Env} {R : Room} {s : State} {m : MethodId} {args : Array Value} {below : List Frame} {meth : Method} {c : Code} {H : Heap} {locs : List Loc} {cells slots : Nat} {Q : State → Prop} {cc : ByteArray} {ls : Array Slot} {rest : List Value}
theorem gk_castW {pc : Nat} (hexec : p.tables.exec = Jvm.exec) (hb : c.code = cc) {own nm : String} {index : Nat} (hown : s.vm.findClass own = some m.cls) (hlink : (Cond.classLink own index nm).before args s = true) {a : Nat} {cell : Cell} (hc : H[a]? = some cell) (hst : cell.vm.isStatics = false) (hnm : s.vm.findClass nm = some cell.cls) (hdg : decode cc pc = .ok (.checkcast index, 3))
    (k : W p l e R s m args below meth c H locs cells slots Q (F0 m (pc + 3) ls (.ref a :: rest))) : W p l e R s m args below meth c H locs cells slots Q (F0 m pc ls (.ref a :: rest)) := by
  intro T hT X
  obtain ⟨vm', X', st⟩ := X.checkcastYes hexec hown hlink (by rw [hT]; exact hc) hst hnm (va_asg _ _) (g := F0 m pc ls (.ref a :: rest)) rfl rfl (by rw [hb]; exact hdg)
  obtain ⟨t, a1, b1⟩ := k (T.setVm vm') hT X'
  exact ⟨t, st t a1, b1⟩
end GKCL
section GKCLN
variable {ρ : Type} {w : ρ → gk_U} {d : Nat} {y : MethodName} {cc : ByteArray} {nL : Nat} {ret : Option FieldType} {et : List ExceptionTableEntry} {x : Option (ρ × gk_H)} {pc : Nat} {L : List (Nat × Value)} {st : List Value} {h : gk_H}
/-- clone() of an array of bytes, and the cast behind it -/
theorem gk_clone {a : Option Nat} {ix ix2 : Nat} {f : Option Nat → gk_H → Option (ρ × gk_H)} (hd : decode cc pc = .ok (.invokevirtual ix, 3)) (hd2 : decode cc (pc + 3) = .ok (.checkcast ix2, 3)) (hl : Cond.methodLink y.cls ix ⟨"[B", "clone", "()Ljava/lang/Object;"⟩ ∈ gk_T) (hl2 : Cond.classLink y.cls ix2 "[B" ∈ gk_T) (h8 : (st.map fun v => v.category).sum ≤ 8)
    (kk : ∀ x1 h1, gk_P w (d + 1) y cc nL ret et (f x1 h1) (pc + 6) L (va_rf x1 :: st) h1) : gk_P w (d + 1) y cc nL ret et (gk_cln h a f) pc L (va_rf a :: st) h := by
  intro rr h' hx
  cases a with
  | none => cases hx
  | some i =>
    unfold gk_cln at hx
    by_cases hc : (h.2.2 i).1 = 3 ∧ gk_c ≤ i ∧ (h.2.2 i).2.1 < 2 ^ 31 ∧ gk_byt (h.2.2 i).2.2 0 (h.2.2 i).2.1 = true
    · simp only [if_pos hc] at hx
      obtain ⟨k1, k2, k3⟩ := kk _ _ rr h' hx
      obtain ⟨ti, hi, h31, hby⟩ := hc
      have e1 : (gk_new h (h.2.2 i).2.1 (3, (h.2.2 i).2.1, (h.2.2 i).2.2)).1 = h.1 + 1 := rfl
      have e2 : (gk_new h (h.2.2 i).2.1 (3, (h.2.2 i).2.1, (h.2.2 i).2.2)).2.1 = h.2.1 + (h.2.2 i).2.1 := rfl
      rw [e1] at k1
      rw [e2] at k2
      refine ⟨by omega, by omega, fun p l e R s m args below meth cd H locs cells slots ls D ad B n0 u0 mc ms Qc XC C S r1 r2 r3 r4 E => ?_⟩
      have hts := C.2.2.2.2.2.1
      obtain ⟨s1, s2, s3, s4, s5, s6, s7, s8, s9⟩ := id S
      have hS0 : gk_S D ad B n0 u0 nL L st h s H locs cells slots ls := ⟨s1, s2, s3, s4, s5, gk_dr1 s6, s7, s8, s9⟩
      obtain ⟨cell, f1, ⟨f2, f3, f4, f5, f6, f7⟩, fx⟩ := gk_at_siz s1 ti (ty := .byte) rfl
      obtain ⟨fsz, fcl⟩ := fx hi
      have hcls := fcl rfl
      obtain ⟨fs, kF, fk, cF, fkk⟩ := f2
      have hcl : va_Nw (.castable "[B" "java/lang/Cloneable") s := s2.1.1 ("[B", "java/lang/Cloneable") (by decide)
      obtain ⟨c0, t0', z1, z2, z3⟩ := Cond.castable_spec (va_Nw.use (A := args) rfl hcl)
      cases hcls.symm.trans z1
      generalize hH1 : H.push { cls := cell.cls, slots := cell.slots } = H1
      have q1 : H1[H.size]? = some { cls := cell.cls, slots := cell.slots } := by rw [← hH1, Array.getElem?_push_size]
      have q2 : H1.size = H.size + 1 := by rw [← hH1, Array.size_push]
      have q3 : ∀ q, q < H.size → H1[q]? = H[q]? := by
        intro q hq
        rw [← hH1, Array.getElem?_push, if_neg (Nat.ne_of_lt hq)]
      have hr1 : gk_R D (fun j => if j = h.1 then H.size else ad j) B (gk_new h (h.2.2 i).2.1 (3, (h.2.2 i).2.1, (h.2.2 i).2.2)) s H1 := by
        have hokk : ∀ k, k < (h.2.2 i).2.1 → gk_ok h.1 ((h.2.2 i).2.2 k) := fun k hk => s1.2.2.2.2.1 i k (by rw [ti]; decide) hk
        refine s1.new hokk (fun _ => ?_) (by show (3 : Nat) ≠ 9; decide) q2 q3
        have hA : ∀ j, j < h.1 → (fun j => if j = h.1 then H.size else ad j) j = ad j := fun j hj => if_neg (Nat.ne_of_lt hj)
        refine ⟨{ cls := cell.cls, slots := cell.slots }, (by show H1[if h.1 = h.1 then H.size else ad h.1]? = _; rw [if_pos rfl]; exact q1), ⟨⟨(fun k z => by cases z), kF, fk, cF, fkk⟩, (fun z => by cases z), f4, f5, fun j hj => ?_, fun C hC => by cases hC⟩, fun _ => ⟨fsz, fun _ => hcls⟩⟩
        rw [gk_v_ok hA (hokk j hj)]
        exact f6 j hj
      obtain ⟨S1, e3, hA⟩ := hS0.made hr1 q2 q3
      have k9 := k3 p l e R s m args below meth cd H1 locs (cells + 1) (slots + (h.2.2 i).2.1) ls D _ B n0 u0 mc ms Qc XC C S1 r1 r2 r3 r4 (E.mono hA (by rw [e1]; omega))
      rw [List.map_cons, e3, gk_v_ref] at k9
      simp only [Option.map_some, if_pos] at k9
      have k8 := gk_castW (pc := pc + 3) (index := ix2) C.1 C.2.1 C.2.2.2.2.1 (hts _ hl2) q1 rfl hcls hd2 k9
      intro T hT X
      have fr := C.2.2.2.2.2.2.2.2.2.2.1
      have lo := C.2.2.2.2.2.2.2.2.2.2.2
      have hcellT : T.heap[ad i]? = some cell := by rw [hT]; exact f1
      obtain ⟨kT, hkT, heT⟩ := X.warmed.alike.2.2 _ _ fk
      obtain ⟨vm', X', st'⟩ := X.cloneArray C.1 C.2.2.2.2.1 (hts _ hl) (hts _ (gk_T_mem (by decide +kernel) (by decide +kernel))) (hts _ (gk_T_mem (by decide +kernel) (by decide +kernel))) (hts _ (gk_T_mem (by decide +kernel) (by decide +kernel))) (hts _ (gk_T_mem (by decide +kernel) (by decide +kernel))) (a := ad i) (cell := cell) hcellT fs f3 hcls z2 z3
        (fun k v hv => by
          have hk : k < (h.2.2 i).2.1 := by
            have := (Array.getElem?_eq_some_iff.mp hv).1
            omega
          have h1 := List.all_eq_true.mp hby k (List.mem_range.mpr hk)
          rw [f6 k hk] at hv
          cases hv
          rw [Nat.zero_add] at h1
          have hkind : kT.kind = .array cF .byte := by rw [heT]; exact fkk
          split at h1
          · rename_i v9 hv9
            rw [hv9]
            simpa [State.fitsSlot, State.slotType?, hkT, hkind, gk_v] using h1
          · cases h1)
        (g := F0 m pc ls ((va_rf (some i) :: st).map (gk_v ad))) rfl (s4.1.trans C.2.2.1.symm) (rest := st.map (gk_v ad)) rfl (by rw [C.2.1]; exact hd) (by omega) (by
          rw [gk_cat_map]
          show 2 * 0 + _ + 14 ≤ R.locals
          omega) (by omega) (by rw [fsz]; omega) (hloader := Vm.clonesLoader_of_array fk fkk)
      rw [fsz] at X'
      obtain ⟨t, b1, b2⟩ := k8 ((T.setVm vm').pushCell { cls := cell.cls, slots := cell.slots }) (by rw [← hH1, ← hT]; rfl) X'
      refine ⟨t, st' t ?_, b2⟩
      rw [hT]
      exact b1
    · simp only [if_neg hc] at hx
      cases hx
end GKCLN
