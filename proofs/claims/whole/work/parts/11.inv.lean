/-! ROWS: calls -/
theorem gk_N.same {ad : Nat → Nat} {u U : State} (hv : u.vm = U.vm) (h : gk_N ad u) : gk_N ad U := by
  obtain ⟨h1, h2, h3, h4, h5, h6⟩ := h
  refine ⟨⟨fun q hq => va_Nw.same rfl hv (h1.1 q hq), fun q hq => va_Nc.moved (by rw [hv]; exact Vm.Alike.refl _) (h1.2 q hq)⟩, fun q hq => va_Nw.same rfl hv (h2 q hq), fun q hq => va_Nw.same rfl hv (h3 q hq), va_AO.moved (by rw [hv]; exact Vm.Alike.refl _) h4, fun r hr => vk_R.same hv.symm (h5 r hr), fun r hr => ?_⟩
  obtain ⟨a, ha⟩ := h6 r hr
  exact ⟨a, vk_R.same hv.symm ha⟩
theorem gk_blind {D : va_G} {ad : Nat → Nat} {B : Nat} {as : List Value} {h : gk_H} : FrameBlind (gk_Pc D ad B as h) := by
  intro a U g mk q
  obtain ⟨q1, q2, q3, q4⟩ := q
  exact ⟨q1, gk_R.moved (u := U) (U := U.calling g mk a) (Vm.Alike.refl U.vm) q2, gk_N.same (u := U) (U := U.calling g mk a) rfl q3, q4⟩
theorem gk_good {y : MethodName} {cc : ByteArray} {nL : Nat} {ret : Option FieldType} (hc : Cond.code y cc nL ret ∈ gk_T) : GoodIn gk_T (gk_ws y cc nL ret) := by
  intro w hw
  have h1 : w ∈ gk_T := by
    rcases List.mem_cons.mp hw with e | e
    · rw [e]; exact hc
    · exact e
  exact ⟨h1, good_of_word (gk_T_good w h1)⟩
/-- a receiver is an object of class c -/
def gk_rcv (h : gk_H) (a : Option Nat) (c : Nat) : Option Unit := match a with
  | none => none
  | some i => if (h.2.2 i).1 = 10 + c then some () else none
section GKI
variable {ρ : Type} {w : ρ → gk_U} {d : Nat} {y : MethodName} {cc : ByteArray} {nL : Nat} {ret : Option FieldType} {et : List ExceptionTableEntry} {x : Option (ρ × gk_H)} {pc : Nat} {L : List (Nat × Value)} {st sk : List Value} {h : gk_H}
variable {ρ' : Type} {w' : ρ' → Option Value} {x' : Option (ρ' × gk_H)} {f : ρ' × gk_H → Option (ρ × gk_H)} {y' : MethodName} {cc' : ByteArray} {nL' : Nat} {ret' : Option FieldType} {as : List Value}
/-- behind a call that returns: the row of the kit for the kind of call is given -/
theorem gk_inv (hok : ∀ n, (∀ v ∈ sk, gk_ok n v) → (∀ v ∈ as, gk_ok n v) ∧ ∀ v ∈ st, gk_ok n v) (hM : ∀ r h1, x' = some (r, h1) → gk_M d y' cc' nL' ret' as h (.inl (w' r)) h1)
    (hrun : ∀ (p : Program) (l : Launch) (e : Env) (R : Room) (s : State) (m : MethodId) (args : Array Value) (below : List Frame) (meth : Method) (c : Code) (H : Heap) (locs : List Loc) (cells slots : Nat) (ls : Array Slot) (D : va_G) (ad : Nat → Nat) (B mc ms : Nat) (r : ρ') (h1 : gk_H), gk_Cx p l R s m args meth c y cc nL ret et (d + 1) → gk_R D ad B h s H → gk_N ad s → (∀ U : State, U.heap = H → s.WarmedH U.vm → gk_B D ad B h U) → ls.size = nL → cells + mc ≤ R.cells ∧ slots + ms ≤ R.slots →
      Met l y' (gk_ws y' cc' nL' ret') (gk_rm d mc ms) (gk_Pc D ad B as h) (gk_Qc D ad B h.1 (w' r) h1) mc ms (fun a => B ≤ a) →
      va_Run p l e R s m args below meth c H locs cells slots mc ms (F0 m pc ls (sk.map (gk_v ad))) (st.map (gk_v ad)) (gk_Qc D ad B h.1 (w' r) h1 (as.map (gk_v ad)).toArray) (fun a => B ≤ a))
    (kk : ∀ r h1, gk_P w (d + 1) y cc nL ret et (f (r, h1)) (pc + 3) L ((w' r).toList ++ st) h1) : gk_P w (d + 1) y cc nL ret et (x'.bind f) pc L sk h := by
  intro rr h' hx
  cases hx' : x' with
  | none => rw [hx'] at hx; cases hx
  | some q =>
    obtain ⟨r, h1⟩ := q
    rw [hx'] at hx
    obtain ⟨k1, k2, k3⟩ := kk r h1 rr h' hx
    obtain ⟨m1, m2, m3⟩ := hM r h1 hx'
    refine ⟨Nat.le_trans m1 k1, Nat.le_trans m2 k2, fun p l e R s m args below meth c H locs cells slots ls D ad B n0 u0 mc ms Qc XC C S r1 r2 r3 r4 E => ?_⟩
    obtain ⟨s1, s2, s3, s4, s5, s6, s7, s8, s9⟩ := S
    obtain ⟨ok1, ok2⟩ := hok _ s6
    have hB : ∀ U : State, U.heap = H → s.WarmedH U.vm → gk_B D ad B h U := fun U hU hW => ⟨by rw [hU]; exact s1.moved hW.alike, s2.warm hW, by rw [hU]; exact s1.2.2.2.2.2.1⟩
    have hr := hrun p l e R s m args below meth c H locs cells slots ls D ad B (h1.1 - h.1) (h1.2.1 - h.2.1) r h1 C s1 s2 hB s4.1 ⟨by omega, by omega⟩ (m3 l D ad B C.2.2.2.2.2.2.2.2.1 ok1)
    intro T hT X
    obtain ⟨v, st₀, t, T', Lc, h0, X', hL, e1, e2, ⟨ad', hA, hR, hv, hokv, hF⟩, stp⟩ := hr T hT X
    cases hv
    have hal : s.vm.Alike t.vm := by rw [← e2]; exact X'.warmed.alike
    have hR' : gk_R D ad' B h1 s T'.heap := by rw [e1]; exact hR.moved hal.symm
    have hc : gk_c ≤ h.1 := s1.2.2.2.2.2.2.1
    have eL : (L.map fun q => (q.1, gk_v ad' q.2)) = L.map fun q => (q.1, gk_v ad q.2) := List.map_congr_left fun q hq => by rw [gk_v_ok hA (s5 q hq)]
    have eS : st.map (gk_v ad') = st.map (gk_v ad) := List.map_congr_left fun z hz => gk_v_ok hA (ok2 z hz)
    have eT : ((w' r).toList ++ st).map (gk_v ad') = ((w' r).map (gk_v ad')).toList ++ st.map (gk_v ad) := by
      rw [List.map_append, eS]
      cases w' r <;> rfl
    have hk := k3 p l e R s m args below meth c T'.heap (locs ++ Lc) (cells + (h1.1 - h.1)) (slots + (h1.2.1 - h.2.1)) ls D ad' B n0 u0 mc ms Qc XC C
      ⟨hR', s2.agree (fun i hi => hA i (Nat.lt_of_lt_of_le hi hc)), ⟨?_, ?_, ?_⟩, by rw [eL]; exact s4, fun q hq => (s5 q hq).mono m1, ?_, by omega, by omega, s9⟩ r1 r2 r3 r4 (E.mono hA m1)
    · rw [eT] at hk
      obtain ⟨t2, a1, b1⟩ := hk T' rfl X'
      exact ⟨t2, stp t2 a1, b1⟩
    · have := hF.1
      rw [h0] at this
      rw [e1]
      exact Nat.le_trans s3.1 this
    · intro q q1 q2
      rw [e1, hF.2 q (by rw [h0]; exact Nat.lt_of_lt_of_le q1 s3.1) q2, h0]
      exact s3.2.1 q q1 q2
    · intro q hq
      rcases List.mem_append.mp hq with z | z
      · exact s3.2.2 q z
      · exact hL q z
    · intro z hz
      rcases List.mem_append.mp hz with q | q
      · cases hw : w' r with
        | none => rw [hw] at q; cases q
        | some u =>
          rw [hw] at q
          rw [List.mem_singleton.mp q]
          exact hokv u hw
      · exact (ok2 z q).mono m1
theorem gk_sk_ok (hsk : as.reverse ++ st = sk) : ∀ n, (∀ v ∈ sk, gk_ok n v) → (∀ v ∈ as, gk_ok n v) ∧ ∀ v ∈ st, gk_ok n v := by
  intro n hs
  subst hsk
  exact ⟨fun v hv => hs v (List.mem_append_left _ (List.mem_reverse.mpr hv)), fun v hv => hs v (List.mem_append_right _ hv)⟩
theorem gk_sk_map (ad : Nat → Nat) (hsk : as.reverse ++ st = sk) : sk.map (gk_v ad) = (as.map (gk_v ad)).reverse ++ st.map (gk_v ad) := by
  subst hsk
  rw [List.map_append, List.map_reverse]
theorem gk_cat_map (ad : Nat → Nat) (l : List Value) : ((l.map (gk_v ad)).map fun v => v.category) = l.map fun v => v.category := by
  rw [List.map_map]
  exact List.map_congr_left fun v _ => gk_v_cat ad v
theorem gk_cb {R : Room} {s : State} {args : Array Value} {ix mc ms n : Nat} (hts : ∀ w ∈ gk_T, w.before args s = true) (hcode : Cond.code y' cc' nL' ret' ∈ gk_T) (hl : Cond.methodLink y.cls ix y' ∈ gk_T) (hini : Cond.initialized y'.cls ∈ gk_T)
    (hd : y'.cls ≠ "java/lang/invoke/MethodHandle" ∧ y'.cls ≠ "java/lang/invoke/VarHandle" ∧ (parseMethodDescriptor y'.desc).map (fun d => d.parameters.length) = some n) (hnl : nL' ≤ 45) (hf : d + 1 ≤ R.frames) (hlo : 64 * (d + 1) ≤ R.locals) :
    CallB R s args y.cls ix y' cc' nL' ret' (gk_ws y' cc' nL' ret') (gk_rm d mc ms) mc ms n :=
  callB_of n hts (gk_good hcode) rfl rfl rfl (hts _ hini) (hts _ hl) hd ⟨hf, by show 8 + (nL' + 11) + 64 * d ≤ R.locals; omega⟩
theorem gk_invS {ix n : Nat} (hd : decode cc pc = .ok (.invokestatic ix, 3)) (hsk : as.reverse ++ st = sk) (hn : as.length = n) (h8 : (st.map fun v => v.category).sum ≤ 8)
    (hl : Cond.methodLink y.cls ix y' ∈ gk_T) (hst : Cond.static y' ∈ gk_T) (hini : Cond.initialized y'.cls ∈ gk_T) (hcode : Cond.code y' cc' nL' ret' ∈ gk_T)
    (hy : y'.cls ≠ "java/lang/invoke/MethodHandle" ∧ y'.cls ≠ "java/lang/invoke/VarHandle" ∧ (parseMethodDescriptor y'.desc).map (fun d => d.parameters.length) = some n) (hnl : nL' ≤ 45)
    (hM : ∀ r h1, x' = some (r, h1) → gk_M d y' cc' nL' ret' as h (.inl (w' r)) h1) (kk : ∀ r h1, gk_P w (d + 1) y cc nL ret et (f (r, h1)) (pc + 3) L ((w' r).toList ++ st) h1) : gk_P w (d + 1) y cc nL ret et (x'.bind f) pc L sk h := by
  refine gk_inv (gk_sk_ok hsk) hM (fun p l e R s m args below meth c H locs cells slots ls D ad B mc ms r h1 C hR hN hB hz hf hMet => ?_) kk
  have hts := C.2.2.2.2.2.1
  refine va_runS (As := as.map (gk_v ad)) (rest := st.map (gk_v ad)) ⟨C.1, C.2.1, C.2.2.1, C.2.2.2.2.1, hts⟩ hMet ⟨gk_cb hts hcode hl hini hy hnl C.2.2.2.2.2.2.2.2.2.2.1 C.2.2.2.2.2.2.2.2.2.2.2, hts _ hst⟩ ⟨gk_blind, fun U hU hW => ⟨rfl, hB U hU hW⟩⟩ rfl (by rw [List.length_map]; exact hn) hz (gk_sk_map ad hsk) (lv_room (by rw [gk_cat_map]; exact h8)) hd hf
/-- an object of class c is one in the heap -/
theorem gk_recv {D : va_G} {ad : Nat → Nat} {B : Nat} {s : State} {H : Heap} (hR : gk_R D ad B h s H) {i c : Nat} {r : vw_C} (ht : (h.2.2 i).1 = 10 + c) (hc : gk_cl[c]? = some r) : ∃ cellB : Cell, H[ad i]? = some cellB ∧ cellB.vm.isStatics = false ∧ s.vm.findClass r.1 = some cellB.cls := by
  obtain ⟨cell, q1, -, r', q2, q3, q4, q5, q6, q7, q8⟩ := gk_at_obj hR ht
  rw [ht, Nat.add_sub_cancel_left] at q4
  exact ⟨cell, q1, q5, by rw [q4]; exact (hR.2.2.2.2.2.2.2.2.2.1 c r hc).2.1⟩
theorem gk_rcv_bind {a : Option Nat} {c : Nat} {g : Option (ρ × gk_H)} (k : ∀ i, a = some i → (h.2.2 i).1 = 10 + c → gk_P w d y cc nL ret et g pc L st h) : gk_P w d y cc nL ret et ((gk_rcv h a c).bind fun _ => g) pc L st h := by
  cases a with
  | none => exact gk_none
  | some i =>
    unfold gk_rcv
    by_cases ht : (h.2.2 i).1 = 10 + c
    · simp only [if_pos ht, Option.bind_some]
      exact k i rfl ht
    · simp only [if_neg ht, Option.bind_none]
      exact gk_none
theorem gk_invV (c : Nat) {r0 : vw_C} {a : Option Nat} {ix n : Nat} (hd : decode cc pc = .ok (.invokevirtual ix, 3)) (hc : gk_cl[c]? = some r0) (hcy : y'.cls = r0.1) (hsk : as.reverse ++ va_rf a :: st = sk) (hn : as.length = n) (h8 : (st.map fun v => v.category).sum ≤ 8)
    (hl : Cond.methodLink y.cls ix y' ∈ gk_T) (hst : Cond.instanceMethod y' ∈ gk_T) (hsel : Cond.selects y'.cls y' y' ∈ gk_T) (hini : Cond.initialized y'.cls ∈ gk_T) (hcode : Cond.code y' cc' nL' ret' ∈ gk_T)
    (hy : y'.cls ≠ "java/lang/invoke/MethodHandle" ∧ y'.cls ≠ "java/lang/invoke/VarHandle" ∧ (parseMethodDescriptor y'.desc).map (fun d => d.parameters.length) = some n) (hnl : nL' ≤ 45)
    (hM : ∀ r h1, x' = some (r, h1) → gk_M d y' cc' nL' ret' (va_rf a :: as) h (.inl (w' r)) h1) (kk : ∀ r h1, gk_P w (d + 1) y cc nL ret et (f (r, h1)) (pc + 3) L ((w' r).toList ++ st) h1) : gk_P w (d + 1) y cc nL ret et ((gk_rcv h a c).bind fun _ => x'.bind f) pc L sk h := by
  refine gk_rcv_bind fun i hi ht => ?_
  subst hi
  have hsk' : (va_rf (some i) :: as).reverse ++ st = sk := by rw [List.reverse_cons, List.append_assoc]; exact hsk
  refine gk_inv (gk_sk_ok hsk') hM (fun p l e R s m args below meth cd H locs cells slots ls D ad B mc ms r h1 C hR hN hB hz hf hMet => ?_) kk
  have hts := C.2.2.2.2.2.1
  have hmap : sk.map (gk_v ad) = (as.map (gk_v ad)).reverse ++ .ref (ad i) :: st.map (gk_v ad) := by
    rw [← hsk, List.map_append, List.map_reverse]
    rfl
  refine va_runV (C := y'.cls) (b := ad i) (As := as.map (gk_v ad)) (rest := st.map (gk_v ad)) ⟨C.1, C.2.1, C.2.2.1, C.2.2.2.2.1, hts⟩ hMet ⟨gk_cb hts hcode hl hini hy hnl C.2.2.2.2.2.2.2.2.2.2.1 C.2.2.2.2.2.2.2.2.2.2.2, hts _ hst, hts _ hsel⟩ ⟨gk_blind, by rw [hcy]; exact gk_recv hR ht hc, fun U hU hW => ⟨rfl, hB U hU hW⟩⟩ rfl (by rw [List.length_map]; exact hn) hz hmap (lv_room (by rw [gk_cat_map]; exact h8)) hd hf
/-- a method that the receiver's class inherits -/
theorem gk_invU (c : Nat) {r0 : vw_C} {a : Option Nat} {ix n : Nat} (hd : decode cc pc = .ok (.invokevirtual ix, 3)) (hc : gk_cl[c]? = some r0) (hsk : as.reverse ++ va_rf a :: st = sk) (hn : as.length = n) (h8 : (st.map fun v => v.category).sum ≤ 8)
    (hl : Cond.methodLink y.cls ix y' ∈ gk_T) (hsm : Cond.sameMethod y'.cls y'.cls y'.name y'.desc ∈ gk_T) (hst : Cond.instanceMethod y' ∈ gk_T) (hsel : Cond.selects r0.1 y' y' ∈ gk_T) (hini : Cond.initialized y'.cls ∈ gk_T) (hcode : Cond.code y' cc' nL' ret' ∈ gk_T)
    (hy : y'.cls ≠ "java/lang/invoke/MethodHandle" ∧ y'.cls ≠ "java/lang/invoke/VarHandle" ∧ (parseMethodDescriptor y'.desc).map (fun d => d.parameters.length) = some n) (hnl : nL' ≤ 45)
    (hM : ∀ r h1, x' = some (r, h1) → gk_M d y' cc' nL' ret' (va_rf a :: as) h (.inl (w' r)) h1) (kk : ∀ r h1, gk_P w (d + 1) y cc nL ret et (f (r, h1)) (pc + 3) L ((w' r).toList ++ st) h1) : gk_P w (d + 1) y cc nL ret et ((gk_rcv h a c).bind fun _ => x'.bind f) pc L sk h := by
  refine gk_rcv_bind fun i hi ht => ?_
  subst hi
  have hsk' : (va_rf (some i) :: as).reverse ++ st = sk := by rw [List.reverse_cons, List.append_assoc]; exact hsk
  refine gk_inv (gk_sk_ok hsk') hM (fun p l e R s m args below meth cd H locs cells slots ls D ad B mc ms r h1 C hR hN hB hz hf hMet => ?_) kk
  have hts := C.2.2.2.2.2.1
  have hmap : sk.map (gk_v ad) = (as.map (gk_v ad)).reverse ++ .ref (ad i) :: st.map (gk_v ad) := by
    rw [← hsk, List.map_append, List.map_reverse]
    rfl
  have hG : GoodIn gk_T (va_wsU y.cls ix r0.1 y'.cls y' y' (gk_ws y' cc' nL' ret')) := by
    intro w hw
    rcases List.mem_append.mp hw with q | q
    · have h1 : w ∈ gk_T := by
        simp only [List.mem_cons, List.not_mem_nil, or_false] at q
        rcases q with rfl | rfl | rfl | rfl | rfl
        · exact hl
        · exact hsm
        · exact hsel
        · exact hst
        · exact hini
      exact ⟨h1, good_of_word (gk_T_good w h1)⟩
    · exact gk_good hcode w q
  have cw := va_cwU (R := R) (rm := gk_rm d mc ms) (C := r0.1) (x := y') (y := y') (owner := y'.cls) (mc := mc) (ms := ms) n hts hG rfl rfl rfl rfl hy ⟨C.2.2.2.2.2.2.2.2.2.2.1, by have := C.2.2.2.2.2.2.2.2.2.2.2; show 8 + (nL' + 11) + 64 * d ≤ R.locals; omega⟩
  refine va_runU (C := r0.1) (b := ad i) (As := as.map (gk_v ad)) (rest := st.map (gk_v ad)) ⟨C.1, C.2.1, C.2.2.1, C.2.2.2.2.1, hts⟩ hMet cw ⟨gk_blind, gk_recv hR ht hc, fun U hU hW => ⟨rfl, hB U hU hW⟩⟩ rfl (by rw [List.length_map]; exact hn) hz hmap (lv_room (by rw [gk_cat_map]; exact h8)) hd hf
/-- a method that the receiver's class has of its own, called by the name that its superclass gave -/
theorem gk_invO (c : Nat) {r0 : vw_C} {a : Option Nat} {ix n m0 : Nat} {b0 : ByteArray} {r9 : Option FieldType} (z : MethodName) (hd : decode cc pc = .ok (.invokevirtual ix, 3)) (hc : gk_cl[c]? = some r0) (hsk : as.reverse ++ va_rf a :: st = sk) (hn : as.length = n) (h8 : (st.map fun v => v.category).sum ≤ 8)
    (hl : Cond.methodLink y.cls ix z ∈ gk_T) (hsm : Cond.sameMethod z.cls z.cls z.name z.desc ∈ gk_T) (hiz : Cond.instanceMethod z ∈ gk_T) (h0 : Cond.code z b0 m0 r9 ∈ gk_T) (hst : Cond.instanceMethod y' ∈ gk_T) (hsel : Cond.selects r0.1 z y' ∈ gk_T) (hini : Cond.initialized y'.cls ∈ gk_T) (hcode : Cond.code y' cc' nL' ret' ∈ gk_T)
    (hy : z.cls ≠ "java/lang/invoke/MethodHandle" ∧ z.cls ≠ "java/lang/invoke/VarHandle" ∧ (parseMethodDescriptor z.desc).map (fun d => d.parameters.length) = some n) (hnl : nL' ≤ 45)
    (hM : ∀ r h1, x' = some (r, h1) → gk_M d y' cc' nL' ret' (va_rf a :: as) h (.inl (w' r)) h1) (kk : ∀ r h1, gk_P w (d + 1) y cc nL ret et (f (r, h1)) (pc + 3) L ((w' r).toList ++ st) h1) : gk_P w (d + 1) y cc nL ret et ((gk_rcv h a c).bind fun _ => x'.bind f) pc L sk h := by
  refine gk_rcv_bind fun i hi ht => ?_
  subst hi
  have hsk' : (va_rf (some i) :: as).reverse ++ st = sk := by rw [List.reverse_cons, List.append_assoc]; exact hsk
  refine gk_inv (gk_sk_ok hsk') hM (fun p l e R s m args below meth cd H locs cells slots ls D ad B mc ms r h1 C hR hN hB hz hf hMet => ?_) kk
  have hts := C.2.2.2.2.2.1
  have hmap : sk.map (gk_v ad) = (as.map (gk_v ad)).reverse ++ .ref (ad i) :: st.map (gk_v ad) := by
    rw [← hsk, List.map_append, List.map_reverse]
    rfl
  have hG : GoodIn gk_T (va_wsO y.cls ix r0.1 z.cls z y' (gk_ws y' cc' nL' ret')) := by
    intro w hw
    rcases List.mem_append.mp hw with q | q
    · have h1 : w ∈ gk_T := by
        simp only [List.mem_cons, List.not_mem_nil, or_false] at q
        rcases q with rfl | rfl | rfl | rfl | rfl | rfl
        · exact hl
        · exact hsm
        · exact hiz
        · exact hsel
        · exact hst
        · exact hini
      exact ⟨h1, good_of_word (gk_T_good w h1)⟩
    · exact gk_good hcode w q
  have cw := va_cwO (R := R) (rm := gk_rm d mc ms) (C := r0.1) (x := z) (y := y') (owner := z.cls) (mc := mc) (ms := ms) n hts hG rfl rfl rfl h0 hy ⟨C.2.2.2.2.2.2.2.2.2.2.1, by have := C.2.2.2.2.2.2.2.2.2.2.2; show 8 + (nL' + 11) + 64 * d ≤ R.locals; omega⟩
  refine va_runU (C := r0.1) (b := ad i) (As := as.map (gk_v ad)) (rest := st.map (gk_v ad)) ⟨C.1, C.2.1, C.2.2.1, C.2.2.2.2.1, hts⟩ hMet cw ⟨gk_blind, gk_recv hR ht hc, fun U hU hW => ⟨rfl, hB U hU hW⟩⟩ rfl (by rw [List.length_map]; exact hn) hz hmap (lv_room (by rw [gk_cat_map]; exact h8)) hd hf
theorem gk_invSU (c : Nat) {r0 : vw_C} {a : Option Nat} {ix n : Nat} (hd : decode cc pc = .ok (.invokespecial ix, 3)) (hc : gk_cl[c]? = some r0) (hsk : as.reverse ++ va_rf a :: st = sk) (hn : as.length = n) (h8 : (st.map fun v => v.category).sum ≤ 8)
    (hl : Cond.methodLink y.cls ix y' ∈ gk_T) (hsm : Cond.sameMethod y'.cls y'.cls y'.name y'.desc ∈ gk_T) (hsup : Cond.superclass y.cls y'.cls ∈ gk_T) (hst : Cond.instanceMethod y' ∈ gk_T) (hini : Cond.initialized y'.cls ∈ gk_T) (hcode : Cond.code y' cc' nL' ret' ∈ gk_T)
    (hy : y'.name ≠ "<init>" ∧ (parseMethodDescriptor y'.desc).map (fun d => d.parameters.length) = some n) (hnl : nL' ≤ 45)
    (hM : ∀ r h1, x' = some (r, h1) → gk_M d y' cc' nL' ret' (va_rf a :: as) h (.inl (w' r)) h1) (kk : ∀ r h1, gk_P w (d + 1) y cc nL ret et (f (r, h1)) (pc + 3) L ((w' r).toList ++ st) h1) : gk_P w (d + 1) y cc nL ret et ((gk_rcv h a c).bind fun _ => x'.bind f) pc L sk h := by
  refine gk_rcv_bind fun i hi ht => ?_
  subst hi
  have hsk' : (va_rf (some i) :: as).reverse ++ st = sk := by rw [List.reverse_cons, List.append_assoc]; exact hsk
  refine gk_inv (gk_sk_ok hsk') hM (fun p l e R s m args below meth cd H locs cells slots ls D ad B mc ms r h1 C hR hN hB hz hf hMet => ?_) kk
  have hts := C.2.2.2.2.2.1
  have hmap : sk.map (gk_v ad) = (as.map (gk_v ad)).reverse ++ .ref (ad i) :: st.map (gk_v ad) := by
    rw [← hsk, List.map_append, List.map_reverse]
    rfl
  have hG : GoodIn gk_T (va_wsSU y.cls ix y' (gk_ws y' cc' nL' ret')) := by
    intro w hw
    rcases List.mem_append.mp hw with q | q
    · have h1 : w ∈ gk_T := by
        simp only [List.mem_cons, List.not_mem_nil, or_false] at q
        rcases q with rfl | rfl | rfl | rfl | rfl
        · exact hl
        · exact hsm
        · exact hsup
        · exact hst
        · exact hini
      exact ⟨h1, good_of_word (gk_T_good w h1)⟩
    · exact gk_good hcode w q
  have cw := va_cwSU (R := R) (rm := gk_rm d mc ms) (mc := mc) (ms := ms) n hts hG rfl rfl rfl hy ⟨C.2.2.2.2.2.2.2.2.2.2.1, by have := C.2.2.2.2.2.2.2.2.2.2.2; show 8 + (nL' + 11) + 64 * d ≤ R.locals; omega⟩
  refine va_runSU (C := r0.1) (cC := D.1 c) (b := ad i) (As := as.map (gk_v ad)) (rest := st.map (gk_v ad)) (hR.2.2.2.2.2.2.2.2.2.1 c r0 hc).2 ⟨C.1, C.2.1, C.2.2.1, C.2.2.2.2.1, hts⟩ hMet cw ⟨gk_blind, gk_recv hR ht hc, fun U hU hW => ⟨rfl, hB U hU hW⟩⟩ rfl (by rw [List.length_map]; exact hn) hz hmap (lv_room (by rw [gk_cat_map]; exact h8)) hd hf
theorem gk_invI (c : Nat) {a : Option Nat} {ix n : Nat} (hd : decode cc pc = .ok (.invokespecial ix, 3)) (hsk : as.reverse ++ va_rf a :: st = sk) (hn : as.length = n) (h8 : (st.map fun v => v.category).sum ≤ 8)
    (hl : Cond.methodLink y.cls ix y' ∈ gk_T) (hst : Cond.instanceMethod y' ∈ gk_T) (hini : Cond.initialized y'.cls ∈ gk_T) (hcode : Cond.code y' cc' nL' none ∈ gk_T) (hnm : y'.name = "<init>")
    (hy : y'.cls ≠ "java/lang/invoke/MethodHandle" ∧ y'.cls ≠ "java/lang/invoke/VarHandle" ∧ (parseMethodDescriptor y'.desc).map (fun d => d.parameters.length) = some n) (hnl : nL' ≤ 45)
    (hM : ∀ r h1, x' = some (r, h1) → gk_M d y' cc' nL' none (va_rf a :: as) h (.inl (w' r)) h1) (kk : ∀ r h1, gk_P w (d + 1) y cc nL ret et (f (r, h1)) (pc + 3) L ((w' r).toList ++ st) h1) : gk_P w (d + 1) y cc nL ret et ((gk_rcv h a c).bind fun _ => x'.bind f) pc L sk h := by
  refine gk_rcv_bind fun i hi ht => ?_
  subst hi
  have hsk' : (va_rf (some i) :: as).reverse ++ st = sk := by rw [List.reverse_cons, List.append_assoc]; exact hsk
  refine gk_inv (gk_sk_ok hsk') hM (fun p l e R s m args below meth cd H locs cells slots ls D ad B mc ms r h1 C hR hN hB hz hf hMet => ?_) kk
  have hts := C.2.2.2.2.2.1
  have hmap : sk.map (gk_v ad) = (as.map (gk_v ad)).reverse ++ .ref (ad i) :: st.map (gk_v ad) := by
    rw [← hsk, List.map_append, List.map_reverse]
    rfl
  refine va_runI (b := ad i) (As := as.map (gk_v ad)) (rest := st.map (gk_v ad)) ⟨C.1, C.2.1, C.2.2.1, C.2.2.2.2.1, hts⟩ hMet ⟨gk_cb hts hcode hl hini hy hnl C.2.2.2.2.2.2.2.2.2.2.1 C.2.2.2.2.2.2.2.2.2.2.2, hnm, hts _ hst⟩ ⟨gk_blind, fun U hU hW => ⟨rfl, hB U hU hW⟩⟩ rfl (by rw [List.length_map]; exact hn) hz hmap (lv_room (by rw [gk_cat_map]; exact h8)) hd hf
theorem gk_invIN (c : Nat) {a : Option Nat} {ix n : Nat} {host : String} (hd : decode cc pc = .ok (.invokespecial ix, 3)) (hsk : as.reverse ++ va_rf a :: st = sk) (hn : as.length = n) (h8 : (st.map fun v => v.category).sum ≤ 8)
    (hl : (y.cls, ix, y', host) ∈ gk_exM) (hst : Cond.instanceMethod y' ∈ gk_T) (hini : Cond.initialized y'.cls ∈ gk_T) (hcode : Cond.code y' cc' nL' none ∈ gk_T) (hnm : y'.name = "<init>")
    (hy : y'.cls ≠ "java/lang/invoke/MethodHandle" ∧ y'.cls ≠ "java/lang/invoke/VarHandle" ∧ (parseMethodDescriptor y'.desc).map (fun d => d.parameters.length) = some n) (hnl : nL' ≤ 45)
    (hM : ∀ r h1, x' = some (r, h1) → gk_M d y' cc' nL' none (va_rf a :: as) h (.inl (w' r)) h1) (kk : ∀ r h1, gk_P w (d + 1) y cc nL ret et (f (r, h1)) (pc + 3) L ((w' r).toList ++ st) h1) : gk_P w (d + 1) y cc nL ret et ((gk_rcv h a c).bind fun _ => x'.bind f) pc L sk h := by
  refine gk_rcv_bind fun i hi ht => ?_
  subst hi
  have hsk' : (va_rf (some i) :: as).reverse ++ st = sk := by rw [List.reverse_cons, List.append_assoc]; exact hsk
  refine gk_inv (gk_sk_ok hsk') hM (fun p l e R s m args below meth cd H locs cells slots ls D ad B mc ms r h1 C hR hN hB hz hf hMet => ?_) kk
  have hts := C.2.2.2.2.2.1
  have hmap : sk.map (gk_v ad) = (as.map (gk_v ad)).reverse ++ .ref (ad i) :: st.map (gk_v ad) := by
    rw [← hsk, List.map_append, List.map_reverse]
    rfl
  have cw := va_cnB (R := R) (rm := gk_rm d mc ms) (own := y.cls) (index := ix) (mc := mc) (ms := ms) n hts (gk_good hcode) rfl rfl rfl (hN.2.2.1 _ hl) (hts _ hini) hy ⟨C.2.2.2.2.2.2.2.2.2.2.1, by have := C.2.2.2.2.2.2.2.2.2.2.2; show 8 + (nL' + 11) + 64 * d ≤ R.locals; omega⟩
  refine va_runIN (b := ad i) (As := as.map (gk_v ad)) (rest := st.map (gk_v ad)) ⟨C.1, C.2.1, C.2.2.1, C.2.2.2.2.1, hts⟩ hMet ⟨cw, hnm, hts _ hst⟩ ⟨gk_blind, fun U hU hW => ⟨rfl, hB U hU hW⟩⟩ rfl (by rw [List.length_map]; exact hn) hz hmap (lv_room (by rw [gk_cat_map]; exact h8)) hd hf
/-- Object's own constructor -/
theorem gk_objI {a : Option Nat} {ix : Nat} (hd : decode cc pc = .ok (.invokespecial ix, 3)) (hl : Cond.methodLink y.cls ix Lib.objectInit ∈ gk_T) (h8 : (st.map fun v => v.category).sum ≤ 8) (k : gk_P w (d + 1) y cc nL ret et x (pc + 3) L st h) : gk_P w (d + 1) y cc nL ret et (a.bind fun _ => x) pc L (va_rf a :: st) h := by
  cases a with
  | none => exact gk_none
  | some i =>
    refine gk_step (fun n hL hs => gk_dr1 hs) (fun p l e R s m args below meth c H locs cells slots ls Q ad C hl2 k => ?_) k
    have hts := C.2.2.2.2.2.1
    refine W.objInit C.1 C.2.1 C.2.2.2.2.1 (hts _ hl) (hts _ (gk_T_mem (by decide +kernel) (by decide +kernel))) (hts _ (gk_T_mem (by decide +kernel) (by decide +kernel))) rfl (hl2.1.trans C.2.2.1.symm) rfl hd (by have := C.2.2.2.2.2.2.2.2.2.2.1; omega) ?_ k
    have h9 : 2 * (F0 m pc ls (List.map (gk_v ad) (va_rf (some i) :: st))).monitorRoom + ((st.map (gk_v ad)).map fun v => v.category).sum ≤ 8 := lv_room (by rw [gk_cat_map]; exact h8)
    have := C.2.2.2.2.2.2.2.2.2.2.2
    omega
end GKI
