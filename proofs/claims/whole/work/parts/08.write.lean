/-! ROWS: what is written and made -/
theorem gk_narrow_v (ty : FieldType) (ad : Nat → Nat) (v : Value) : narrow ty (gk_v ad v) = gk_v ad (narrow ty v) := by
  cases v <;> cases ty <;> rfl
theorem gk_fits_v (ty : FieldType) (ad : Nat → Nat) (v : Value) : fits ty (gk_v ad v) = fits ty v := by
  cases v <;> cases ty <;> rfl
theorem gk_fit_v {ty : FieldType} {v : Value} (ad : Nat → Nat) (h : gk_fit ty v = true) : narrow ty (gk_v ad v) = gk_v ad v ∧ fits ty (gk_v ad v) = true := by
  simp only [gk_fit, Bool.and_eq_true, decide_eq_true_eq] at h
  exact ⟨by rw [gk_narrow_v, h.1], by rw [gk_fits_v, h.2]⟩
theorem gk_ok_put {n k : Nat} {f : Nat → Value} {v : Value} {m : Nat} (hf : ∀ j, j < m → gk_ok n (f j)) (hv : gk_ok n v) : ∀ j, j < m → gk_ok n (gk_put f k v j) := by
  intro j hj
  unfold gk_put
  by_cases e : j = k
  · rw [if_pos e]; exact hv
  · rw [if_neg e]; exact hf j hj
theorem gk_ok_narrow {n : Nat} {ty : FieldType} {v : Value} (hv : gk_ok n v) : gk_ok n (narrow ty v) := by
  cases v <;> cases ty <;> first | exact hv | trivial
theorem gk_slots {D : va_G} {s : State} {args : Array Value} (hK : gk_K D s) (hts : ∀ w ∈ gk_T, w.before args s = true) {c : Nat} {r : vw_C} (hc : gk_cl[c]? = some r) : ∀ x y, x < r.2.2 → y < r.2.2 → x ≠ y → D.2 c x ≠ D.2 c y := by
  intro x y hx hy hne
  obtain ⟨hS, -⟩ := hK c r hc
  obtain ⟨_, _, _, fa, hia, ea⟩ := hS x hx
  obtain ⟨_, _, _, fb, hib, eb⟩ := hS y hy
  rw [← ea, ← eb]
  refine u_apart (u_lays hts (gk_laysAll hc) hx) (u_lays hts (gk_laysAll hc) hy) hia hib ?_
  rw [(State.fieldFound?_type hia (gk_tys hc x hx)).1, (State.fieldFound?_type hib (gk_tys hc y hy)).1]
  exact gk_nms hc x hx y hy hne
/-- the world behind a field's change -/
theorem gk_R.putO {D : va_G} {ad : Nat → Nat} {B : Nat} {h : gk_H} {s : State} {H H' : Heap} {args : Array Value} {i c k sl : Nat} {r : vw_C} {cell : Cell} {v : Value} (hr : gk_R D ad B h s H) (hts : ∀ w ∈ gk_T, w.before args s = true) (hi : gk_c ≤ i) (ht : (h.2.2 i).1 = 10 + c) (hc : gk_cl[c]? = some r) (hk : k < r.2.2) (hv : gk_ok h.1 v)
    (g1 : H[ad i]? = some cell) (hsl : sl = D.2 c k) (e1 : H'[ad i]? = some (cell.setSlot sl (gk_v ad v))) (hz : H'.size = H.size) (hq : ∀ q, q ≠ ad i → H'[q]? = H[q]?) : gk_R D ad B (gk_upd h i ((h.2.2 i).1, (h.2.2 i).2.1, gk_put (h.2.2 i).2.2 k v)) s H' := by
  obtain ⟨cell', q1, p0, r', q2, q3, q4, q5, q6, q7, q8⟩ := gk_at_obj hr ht
  cases g1.symm.trans q1
  have hl : gk_lv (h.2.2 i).1 = true := by
    rw [ht]
    simp [gk_lv]
    omega
  have hap := gk_slots hr.2.2.2.2.2.2.2.2.2.1 hts hc
  have h0 : (h.2.2 i).1 ≠ 0 := by rw [ht]; omega
  rw [ht, Nat.add_sub_cancel_left] at q2 q4 q8
  cases q2.symm.trans hc
  refine hr.put hi hl rfl (gk_ok_put (fun j hj => hr.2.2.2.2.1 i j h0 hj) hv) ?_ hz hq
  unfold gk_at
  have he : gk_el ((h.2.2 i).1, (h.2.2 i).2.1, gk_put (h.2.2 i).2.2 k v).1 = none := by
    show gk_el (h.2.2 i).1 = none
    rw [ht]
    unfold gk_el
    split <;> first | rfl | omega
  rw [he]
  refine ⟨_, e1, ?_⟩
  refine ⟨p0, r, ?_, q3, ?_, q5, q6, q7, ?_⟩
  · show gk_cl[(h.2.2 i).1 - 10]? = some r
    rw [ht, Nat.add_sub_cancel_left]; exact hc
  · show cell.cls = D.1 ((h.2.2 i).1 - 10)
    rw [ht, Nat.add_sub_cancel_left]; exact q4
  · intro j hj
    show (cell.setSlot sl (gk_v ad v)).slots[D.2 ((h.2.2 i).1 - 10) j]? = some (gk_v ad (gk_put (h.2.2 i).2.2 k v j))
    rw [ht, Nat.add_sub_cancel_left, hsl]
    rw [t_set (V := fun j => gk_v ad ((h.2.2 i).2.2 j)) q8 hap hk (gk_v ad v) j hj]
    unfold updV gk_put
    by_cases e : j = k
    · rw [if_pos e, if_pos e]
    · rw [if_neg e, if_neg e]
section GKW
variable {ρ : Type} {w : ρ → gk_U} {d : Nat} {y : MethodName} {cc : ByteArray} {nL : Nat} {ret : Option FieldType} {et : List ExceptionTableEntry} {x : Option (ρ × gk_H)} {pc : Nat} {L : List (Nat × Value)} {st : List Value} {h : gk_H}
theorem gk_putfield (c k : Nat) {r : vw_C} {ix : Nat} {a : Option Nat} {v : Value} {f : gk_H → Option (ρ × gk_H)} (hd : decode cc pc = .ok (.putfield ix, 3)) (hc : gk_cl[c]? = some r) (hk : k < r.2.2) (hw : Cond.fieldLink y.cls ix (r.2.1 k).1 (r.2.1 k).2.1 (r.2.1 k).2.2.1 ∈ gk_T) (hfin : (r.2.1 k).2.2.2 = false ∨ (y.name = "<init>" ∧ (r.2.1 k).1 = y.cls))
    (kk : ∀ h1, gk_P w d y cc nL ret et (f h1) (pc + 3) L st h1) : gk_P w d y cc nL ret et ((gk_set h a c k v).bind f) pc L (v :: va_rf a :: st) h := by
  intro rr h' hx
  cases a with
  | none => cases hx
  | some i =>
    unfold gk_set at hx
    by_cases ht : (h.2.2 i).1 = 10 + c ∧ gk_c ≤ i ∧ gk_fit (gk_ty c k) v = true
    · simp only [if_pos ht, Option.bind_some] at hx
      obtain ⟨k1, k2, k3⟩ := kk _ rr h' hx
      obtain ⟨ht, hi, hfit⟩ := ht
      refine ⟨k1, k2, fun p l e R s m args below meth cd H locs cells slots ls D ad B n0 u0 mc ms Qc XC C S r1 r2 r3 r4 E => ?_⟩
      obtain ⟨s1, s2, s3, s4, s5, s6, s7, s8, s9⟩ := S
      obtain ⟨cf, kf, fi, fd, cell, g1, g2, g3, g4, g5, g6, g7, g8, g9, g10⟩ := gk_fld s1 C.2.2.2.2.2.1 ht hc hk
      obtain ⟨hS, hfc, kC, hkC, hkind⟩ := s1.2.2.2.2.2.2.2.2.2.1 c r hc
      obtain ⟨hn, hf2⟩ := gk_fit_v ad hfit
      have hty := gk_tys hc k hk
      have hlay := C.2.2.2.2.2.1 _ (gk_laysAll hc _ (u_in_lay hk))
      have hB : B ≤ ad i := (s1.2.2.2.1 i (by rw [ht]; simp [gk_lv]; omega)).mpr hi
      have fin : ∀ (H' : Heap), H'[ad i]? = some (cell.setSlot fd.slot (gk_v ad v)) → H'.size = H.size → (∀ q, q ≠ ad i → H'[q]? = H[q]?) → W p l e R s m args below meth cd H' (locs ++ [⟨ad i, fd.slot⟩]) cells slots (vx_MQ below Qc XC args s mc ms (fun a => B ≤ a)) (F0 m (pc + 3) ls (st.map (gk_v ad))) := by
        intro H' e1 e2 e3
        exact k3 p l e R s m args below meth cd H' (locs ++ [⟨ad i, fd.slot⟩]) cells slots ls D ad B n0 u0 mc ms Qc XC C ⟨s1.putO C.2.2.2.2.2.1 hi ht hc hk (gk_hd s6) g3 g5 e1 e2 e3, s2, s3.put e2 e3 hB, s4, s5, gk_dr1 (gk_dr1 s6), s7, s8, s9⟩ r1 r2 r3 r4 E
      by_cases hf : (r.2.1 k).2.2.2 = true
      · obtain ⟨hin, hdecl⟩ : y.name = "<init>" ∧ (r.2.1 k).1 = y.cls := by
          rcases hfin with q | q
          · rw [q] at hf; cases hf
          · exact q
        unfold u_lay at hlay
        rw [if_pos hf] at hlay
        have hcf : m.cls = cf := by
          obtain ⟨_, _, c', _, _, _, -, -, hf', -, -, -, hown2, -⟩ := Cond.laysFinal_spec hlay
          have e1 : c' = cf := by have := g1.symm.trans hf'; simp at this; exact this.1.symm
          rw [hdecl] at hown2
          rw [← e1]; exact Option.some.inj (C.2.2.2.2.1.symm.trans hown2)
        have h6 := u_fits hfc hkC hkind (Or.inr hlay) g1 hty hn hf2
        exact W.putFinK C.1 C.2.1 C.2.2.2.2.1 (C.2.2.2.2.2.1 _ hw) g1 g2 hcf (C.2.2.2.2.2.2.2.2.2.1.trans hin) (by rw [g8]; exact h6) g3 (g9 hi) (k2_hasslot g6) rfl rfl hd fin
      · have hf' : (r.2.1 k).2.2.2 = false := by cases q : (r.2.1 k).2.2.2 <;> simp_all
        unfold u_lay at hlay
        rw [if_neg (by rw [hf']; decide)] at hlay
        have h6 := u_store hfc hkC hkind hlay g1 hty hn hf2
        exact W.putK C.1 C.2.1 (f := fd) ⟨C.2.2.2.2.1, C.2.2.2.2.2.1 _ hw, ⟨_, _, _, g1⟩, g2⟩ (by rw [g8]; exact h6) g3 (g9 hi) (k2_hasslot g6) rfl rfl hd fin
    · simp only [if_neg ht, Option.bind_none] at hx
      cases hx
theorem gk_setSlot_read (cell : Cell) (j k : Nat) (v : Value) : (cell.setSlot j v).slots[k]? = if j = k ∧ j < cell.slots.size then some v else cell.slots[k]? := by
  by_cases e : j = k
  · subst e
    by_cases hl : j < cell.slots.size
    · rw [if_pos ⟨rfl, hl⟩]
      simp [Cell.setSlot, Array.getElem?_setIfInBounds, hl]
    · rw [if_neg (fun q => hl q.2)]
      simp [Cell.setSlot, Array.getElem?_setIfInBounds, hl]
  · rw [if_neg (fun q => e q.1)]
    simp [Cell.setSlot, Array.getElem?_setIfInBounds, e]
/-- an array's place is written: the row of the kit for the array's kind is given -/
theorem gk_store (t : Nat) {ty : FieldType} {a : Option Nat} {i : Int32} {v : Value} {f : gk_H → Option (ρ × gk_H)} (hty : gk_el t = some ty)
    (hW : ∀ (p : Program) (l : Launch) (e : Env) (R : Room) (s : State) (m : MethodId) (args : Array Value) (below : List Frame) (meth : Method) (cd : Code) (H : Heap) (locs : List Loc) (cells slots : Nat) (Q : State → Prop) (ls : Array Slot) (b : Nat) (cell : Cell) (ad : Nat → Nat) (rest : List Value), p.tables.exec = Jvm.exec → cd.code = cc → H[b]? = some cell → gk_arr ad s cell ty (h.2.2 (a.getD 0)) → ¬ (i < 0 ∨ cell.slots.size ≤ i.toNatClampNeg) →
      (t = 7 → ∀ q, v = .ref q → ∃ cv : Cell, H[ad q]? = some cv ∧ (∀ z, cv.vm ≠ .statics z) ∧ (∃ kv : Class, s.vm.classes[cv.cls]? = some kv) ∧ ∀ comp, s.vm.findClass "ValueAlgebra$Value" = some comp → s.vm.assignable cv.cls comp = true ∧ ∃ kc : Class, s.vm.classes[comp]? = some kc) →
      (∀ H' : Heap, H'[b]? = some (cell.setSlot i.toNatClampNeg (gk_v ad (narrow ty v))) → H'.size = H.size → (∀ q, q ≠ b → H'[q]? = H[q]?) → W p l e R s m args below meth cd H' (locs ++ [⟨b, i.toNatClampNeg⟩]) cells slots Q (F0 m (pc + 1) ls rest)) → W p l e R s m args below meth cd H locs cells slots Q (F0 m pc ls (gk_v ad v :: .int i :: .ref b :: rest)))
    (kk : ∀ h1, gk_P w d y cc nL ret et (f h1) (pc + 1) L st h1) : gk_P w d y cc nL ret et ((gk_ast h a t i v).bind f) pc L (v :: .int i :: va_rf a :: st) h := by
  intro rr h' hx
  cases a with
  | none => cases hx
  | some j =>
    unfold gk_ast at hx
    by_cases ht : (h.2.2 j).1 = t ∧ gk_inb (h.2.2 j).2.1 i = true ∧ gk_c ≤ j ∧ gk_may h t v = true
    · simp only [if_pos ht, Option.bind_some] at hx
      obtain ⟨k1, k2, k3⟩ := kk _ rr h' hx
      obtain ⟨ht, hin, hj, hmay⟩ := ht
      refine ⟨k1, k2, fun p l e R s m args below meth cd H locs cells slots ls D ad B n0 u0 mc ms Qc XC C S r1 r2 r3 r4 E => ?_⟩
      obtain ⟨s1, s2, s3, s4, s5, s6, s7, s8, s9⟩ := S
      obtain ⟨cell, g1, g2, gx⟩ := gk_at_siz s1 ht hty
      have hb : ¬ (i < 0 ∨ (h.2.2 j).2.1 ≤ i.toNatClampNeg) := of_decide_eq_true hin
      have hlt : i.toNatClampNeg < (h.2.2 j).2.1 := Nat.not_le.mp fun q => hb (Or.inr q)
      have hl : gk_lv (h.2.2 j).1 = true := by
        rw [ht]
        unfold gk_el at hty
        split at hty <;> first | rfl | cases hty
      have h0 : (h.2.2 j).1 ≠ 0 := gk_lv_ne hl
      have htt : gk_tyt t = ty := by unfold gk_tyt; rw [hty]; rfl
      have hB : B ≤ ad j := (s1.2.2.2.1 j hl).mpr hj
      refine hW p l e R s m args below meth cd H locs cells slots _ ls (ad j) cell ad (st.map (gk_v ad)) C.1 C.2.1 g1 g2 ?_ ?_ ?_
      · rintro (q | q)
        · exact hb (Or.inl q)
        · have := g2.2.2.1
          omega
      · intro h7 q hq
        subst h7; subst hq
        have hm : (h.2.2 q).1 = 10 + 2 := of_decide_eq_true hmay
        obtain ⟨cv, z1, -, r', z2, z3, z4, z5, z6, z7, z8⟩ := gk_at_obj s1 hm
        obtain ⟨hS, hfc, kC, hkC, hkind⟩ := s1.2.2.2.2.2.2.2.2.2.1 2 _ rfl
        rw [hm] at z4
        refine ⟨cv, z1, (fun z hz => by rw [hz] at z5; cases z5), ⟨kC, (by rw [z4]; exact hkC)⟩, fun comp hcomp => ?_⟩
        have : comp = D.1 2 := Option.some.inj (hcomp.symm.trans hfc)
        rw [this, z4]
        exact ⟨va_asg _ _, kC, hkC⟩
      · intro H' e1 e2 e3
        refine k3 p l e R s m args below meth cd H' (locs ++ [⟨ad j, i.toNatClampNeg⟩]) cells slots ls D ad B n0 u0 mc ms Qc XC C ⟨s1.put hj hl rfl ?_ ?_ e2 e3, s2, s3.put e2 e3 hB, s4, s5, gk_dr1 (gk_dr1 (gk_dr1 s6)), s7, s8, s9⟩ r1 r2 r3 r4 E
        · exact gk_ok_put (fun k hk => s1.2.2.2.2.1 j k h0 hk) (gk_ok_narrow (gk_hd s6))
        · unfold gk_at
          have he : gk_el ((h.2.2 j).1, (h.2.2 j).2.1, gk_put (h.2.2 j).2.2 i.toNatClampNeg (narrow (gk_tyt t) v)).1 = some ty := by
            show gk_el (h.2.2 j).1 = some ty
            rw [ht]; exact hty
          rw [he]
          refine ⟨_, e1, ?_, fun hj9 => ⟨by rw [k2_slotsz]; exact (gx hj9).1, fun e9 => (gx hj9).2 e9⟩⟩
          obtain ⟨q1, q2, q3, q4, q5, q6⟩ := g2
          refine ⟨q1, q2, by rw [k2_slotsz]; exact q3, by rw [k2_slotsz]; exact q4, fun k hk => ?_, q6⟩
          rw [gk_setSlot_read]
          show _ = some (gk_v ad (gk_put (h.2.2 j).2.2 i.toNatClampNeg (narrow (gk_tyt t) v) k))
          unfold gk_put
          by_cases ek : k = i.toNatClampNeg
          · rw [if_pos ⟨ek.symm, by omega⟩, if_pos ek, htt]
          · rw [if_neg (fun z => ek z.1.symm), if_neg ek]
            exact q5 k hk
    · simp only [if_neg ht, Option.bind_none] at hx
      cases hx
theorem gk_iast {a : Option Nat} {i v : Int32} {f : gk_H → Option (ρ × gk_H)} (hd : decode cc pc = .ok (.iastore, 1)) (kk : ∀ h1, gk_P w d y cc nL ret et (f h1) (pc + 1) L st h1) : gk_P w d y cc nL ret et ((gk_ast h a 1 i (.int v)).bind f) pc L (.int v :: .int i :: va_rf a :: st) h :=
  gk_store 1 rfl (fun p l e R s m args below meth cd H locs cells slots Q ls b cell ad rest hx hb g1 g2 g3 _ k => W.iast hx hb g1 g2.1 g2.2.1 g3 rfl rfl hd k) kk
theorem gk_last {a : Option Nat} {i : Int32} {v : Int64} {f : gk_H → Option (ρ × gk_H)} (hd : decode cc pc = .ok (.lastore, 1)) (kk : ∀ h1, gk_P w d y cc nL ret et (f h1) (pc + 1) L st h1) : gk_P w d y cc nL ret et ((gk_ast h a 2 i (.long v)).bind f) pc L (.long v :: .int i :: va_rf a :: st) h :=
  gk_store 2 rfl (fun p l e R s m args below meth cd H locs cells slots Q ls b cell ad rest hx hb g1 g2 g3 _ k => W.last hx hb g1 g2.1 g2.2.1 g3 rfl rfl hd k) kk
theorem gk_bast {a : Option Nat} {i v : Int32} {f : gk_H → Option (ρ × gk_H)} (hd : decode cc pc = .ok (.bastore, 1)) (kk : ∀ h1, gk_P w d y cc nL ret et (f h1) (pc + 1) L st h1) : gk_P w d y cc nL ret et ((gk_ast h a 3 i (.int v)).bind f) pc L (.int v :: .int i :: va_rf a :: st) h :=
  gk_store 3 rfl (fun p l e R s m args below meth cd H locs cells slots Q ls b cell ad rest hx hb g1 g2 g3 _ k => W.bast hx hb g1 g2.1 g2.2.1 g3 rfl rfl hd k) kk
theorem gk_zast {a : Option Nat} {i v : Int32} {f : gk_H → Option (ρ × gk_H)} (hd : decode cc pc = .ok (.bastore, 1)) (kk : ∀ h1, gk_P w d y cc nL ret et (f h1) (pc + 1) L st h1) : gk_P w d y cc nL ret et ((gk_ast h a 4 i (.int v)).bind f) pc L (.int v :: .int i :: va_rf a :: st) h :=
  gk_store 4 rfl (fun p l e R s m args below meth cd H locs cells slots Q ls b cell ad rest hx hb g1 g2 g3 _ k => W.zast hx hb g1 g2.1 g2.2.1 g3 rfl rfl hd k) kk
theorem gk_cast {a : Option Nat} {i v : Int32} {f : gk_H → Option (ρ × gk_H)} (hd : decode cc pc = .ok (.castore, 1)) (kk : ∀ h1, gk_P w d y cc nL ret et (f h1) (pc + 1) L st h1) : gk_P w d y cc nL ret et ((gk_ast h a 5 i (.int v)).bind f) pc L (.int v :: .int i :: va_rf a :: st) h :=
  gk_store 5 rfl (fun p l e R s m args below meth cd H locs cells slots Q ls b cell ad rest hx hb g1 g2 g3 _ k => W.cast hx hb g1 g2.1 g2.2.1 g3 rfl rfl hd k) kk
theorem gk_dast {a : Option Nat} {i : Int32} {v : UInt64} {f : gk_H → Option (ρ × gk_H)} (hd : decode cc pc = .ok (.dastore, 1)) (kk : ∀ h1, gk_P w d y cc nL ret et (f h1) (pc + 1) L st h1) : gk_P w d y cc nL ret et ((gk_ast h a 6 i (.double v)).bind f) pc L (.double v :: .int i :: va_rf a :: st) h :=
  gk_store 6 rfl (fun p l e R s m args below meth cd H locs cells slots Q ls b cell ad rest hx hb g1 g2 g3 _ k => W.dast hx hb g1 g2.1 g2.2.1 g3 rfl rfl hd k) kk
end GKW
