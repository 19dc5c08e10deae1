/-! ROWS: instanceof and checkcast of what is of the very class, and two references held against one another -/
def gk_iso (h : gk_H) (a : Option Nat) (c : Nat) : Option Int32 := match a with
  | none => some 0
  | some i => if (h.2.2 i).1 = 10 + c then some 1 else none
def gk_cst (h : gk_H) (a : Option Nat) (c : Nat) : Option Unit := match a with
  | none => some ()
  | some i => if (h.2.2 i).1 = 10 + c then some () else none
theorem gk_R.clsAt {D : va_G} {ad : Nat → Nat} {B : Nat} {h : gk_H} {s : State} {H : Heap} (hr : gk_R D ad B h s H) {i c : Nat} {r : vw_C} (ht : (h.2.2 i).1 = 10 + c) (hc : gk_cl[c]? = some r) :
    ClassAt s r.1 (D.1 c) ∧ ∃ cell : Cell, H[ad i]? = some cell ∧ cell.vm.isStatics = false ∧ s.vm.findClass r.1 = some cell.cls := by
  obtain ⟨cell, g1, -, r', g2, g3, g4, g5, -⟩ := gk_at_obj hr ht
  rw [ht, Nat.add_sub_cancel_left] at g2 g4
  have hcl := (hr.2.2.2.2.2.2.2.2.2.1 c r hc).2
  exact ⟨hcl, cell, g1, g5, by rw [g4]; exact hcl.1⟩
section GKLAST
variable {ρ : Type} {w : ρ → gk_U} {d : Nat} {y : MethodName} {cc : ByteArray} {nL : Nat} {ret : Option FieldType} {et : List ExceptionTableEntry} {x : Option (ρ × gk_H)} {pc : Nat} {L : List (Nat × Value)} {st : List Value} {h : gk_H}
theorem gk_inst (c : Nat) {r : vw_C} {ix : Nat} {a : Option Nat} {f : Int32 → Option (ρ × gk_H)} (hd : decode cc pc = .ok (.instanceof ix, 3)) (hc : gk_cl[c]? = some r) (hw : Cond.classLink y.cls ix r.1 ∈ gk_T)
    (kk : ∀ v, gk_P w d y cc nL ret et (f v) (pc + 3) L (.int v :: st) h) : gk_P w d y cc nL ret et ((gk_iso h a c).bind f) pc L (va_rf a :: st) h := by
  intro rr h' hx
  cases a with
  | none =>
    obtain ⟨k1, k2, k3⟩ := kk 0 rr h' hx
    refine ⟨k1, k2, fun p l e R s m args below meth cd H locs cells slots ls D ad B n0 u0 mc ms Qc XC C S r1 r2 r3 r4 E => ?_⟩
    obtain ⟨s1, s2, s3, s4, s5, s6, s7, s8, s9⟩ := S
    refine lv_instN C.1 C.2.1 hd ?_
    exact k3 p l e R s m args below meth cd H locs cells slots ls D ad B n0 u0 mc ms Qc XC C ⟨s1, s2, s3, s4, s5, gk_cn trivial (gk_dr1 s6), s7, s8, s9⟩ r1 r2 r3 r4 E
  | some i =>
    unfold gk_iso at hx
    by_cases ht : (h.2.2 i).1 = 10 + c
    · simp only [if_pos ht, Option.bind_some] at hx
      obtain ⟨k1, k2, k3⟩ := kk 1 rr h' hx
      refine ⟨k1, k2, fun p l e R s m args below meth cd H locs cells slots ls D ad B n0 u0 mc ms Qc XC C S r1 r2 r3 r4 E => ?_⟩
      obtain ⟨s1, s2, s3, s4, s5, s6, s7, s8, s9⟩ := S
      obtain ⟨g1, g2⟩ := gk_R.clsAt s1 ht hc
      refine va_instS C.1 C.2.1 C.2.2.2.2.1 (C.2.2.2.2.2.1 _ hw) g1 g2 hd ?_
      exact k3 p l e R s m args below meth cd H locs cells slots ls D ad B n0 u0 mc ms Qc XC C ⟨s1, s2, s3, s4, s5, gk_cn trivial (gk_dr1 s6), s7, s8, s9⟩ r1 r2 r3 r4 E
    · simp only [if_neg ht, Option.bind_none] at hx
      cases hx
theorem gk_ccast (c : Nat) {r : vw_C} {ix : Nat} {a : Option Nat} {f : Unit → Option (ρ × gk_H)} (hd : decode cc pc = .ok (.checkcast ix, 3)) (hc : gk_cl[c]? = some r) (hw : Cond.classLink y.cls ix r.1 ∈ gk_T)
    (kk : gk_P w d y cc nL ret et (f ()) (pc + 3) L (va_rf a :: st) h) : gk_P w d y cc nL ret et ((gk_cst h a c).bind f) pc L (va_rf a :: st) h := by
  intro rr h' hx
  cases a with
  | none =>
    obtain ⟨k1, k2, k3⟩ := kk rr h' hx
    refine ⟨k1, k2, fun p l e R s m args below meth cd H locs cells slots ls D ad B n0 u0 mc ms Qc XC C S r1 r2 r3 r4 E => ?_⟩
    refine lv_castN C.1 C.2.1 hd ?_
    exact k3 p l e R s m args below meth cd H locs cells slots ls D ad B n0 u0 mc ms Qc XC C S r1 r2 r3 r4 E
  | some i =>
    unfold gk_cst at hx
    by_cases ht : (h.2.2 i).1 = 10 + c
    · simp only [if_pos ht, Option.bind_some] at hx
      obtain ⟨k1, k2, k3⟩ := kk rr h' hx
      refine ⟨k1, k2, fun p l e R s m args below meth cd H locs cells slots ls D ad B n0 u0 mc ms Qc XC C S r1 r2 r3 r4 E => ?_⟩
      obtain ⟨g1, g2⟩ := gk_R.clsAt S.1 ht hc
      refine va_castS C.1 C.2.1 C.2.2.2.2.1 (C.2.2.2.2.2.1 _ hw) g1 g2 hd ?_
      exact k3 p l e R s m args below meth cd H locs cells slots ls D ad B n0 u0 mc ms Qc XC C S r1 r2 r3 r4 E
    · simp only [if_neg ht, Option.bind_none] at hx
      cases hx
/-- two references differ, or are the same: then the end is known beforehand -/
theorem gk_acmpN {a b : Option Nat} {off : Int} (tgt : Nat) (hd : decode cc pc = .ok (.if_acmp .ne off, 3)) (ht : (pc : Int) + off = (tgt : Int)) {r0 : ρ}
    (hs : ∀ (r : ρ) (h' : gk_H), (a.bind fun _ => x) = some (r, h') → ∀ (D : va_G) (ad : Nat → Nat) (B : Nat) (s : State) (H : Heap), gk_R D ad B h s H → a.map ad = b.map ad → (r, h') = (r0, h))
    (ks : gk_P w d y cc nL ret et (some (r0, h)) (pc + 3) L st h) (kk : gk_P w d y cc nL ret et x tgt L st h) : gk_P w d y cc nL ret et (a.bind fun _ => x) pc L (va_rf b :: va_rf a :: st) h := by
  intro r h' hx
  have hx2 : x = some (r, h') := by
    cases a with
    | none => cases hx
    | some i => exact hx
  obtain ⟨k1, k2, k3⟩ := kk r h' hx2
  refine ⟨k1, k2, fun p l e R s m args below meth cd H locs cells slots ls D ad B n0 u0 mc ms Qc XC C S r1 r2 r3 r4 E => ?_⟩
  obtain ⟨s1, s2, s3, s4, s5, s6, s7, s8, s9⟩ := S
  rw [List.map_cons, List.map_cons, gk_v_ref, gk_v_ref]
  refine lv_acmp_ne C.1 C.2.1 hd ht (fun _ => ?_) (fun he => ?_)
  · exact k3 p l e R s m args below meth cd H locs cells slots ls D ad B n0 u0 mc ms Qc XC C ⟨s1, s2, s3, s4, s5, gk_dr1 (gk_dr1 s6), s7, s8, s9⟩ r1 r2 r3 r4 E
  · have e1 := hs r h' hx D ad B s H s1 he
    obtain ⟨q1, q2, q3⟩ := ks r h' (by rw [e1])
    exact q3 p l e R s m args below meth cd H locs cells slots ls D ad B n0 u0 mc ms Qc XC C ⟨s1, s2, s3, s4, s5, gk_dr1 (gk_dr1 s6), s7, s8, s9⟩ r1 r2 r3 r4 E
theorem gk_iretZ1 {r : ρ} (hw : w r = .inl (some (.int 1))) (hd : decode cc pc = .ok (.ireturn, 1)) (hret : ret = some .boolean) : gk_P w d y cc nL ret et (some (r, h)) pc L [.int 1] h := by
  have k := gk_zret (d := d) (y := y) (nL := nL) (et := et) (L := L) (h := h) (v := 1) (ty := .boolean) hw hd hret
  rwa [if_pos (by decide)] at k
end GKLAST
