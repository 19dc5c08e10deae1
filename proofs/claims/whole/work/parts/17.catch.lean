/-! CATCHING: methods with exception tables -/
def gk_cgt (h : gk_H) : gk_H := (h.1 + 1, h.2.1, h.2.2)
/-- what was caught gets the next number -/
theorem gk_R.caught {D : va_G} {ad : Nat → Nat} {B q : Nat} {h : gk_H} {s : State} {H : Heap} (hr : gk_R D ad B h s H) : gk_R D (fun j => if j = h.1 then q else ad j) B (gk_cgt h) s H := by
  have hr0 := hr
  obtain ⟨h1, h2, h3, h4, h5, h6, h7, h8, h9, h10, h11⟩ := hr
  have hA : ∀ i, i < h.1 → (fun j => if j = h.1 then q else ad j) i = ad i := fun i hi => if_neg (Nat.ne_of_lt hi)
  have lt : ∀ {j}, gk_lv (h.2.2 j).1 = true → j < h.1 := fun hj => hr0.lt (gk_lv_ne hj)
  refine ⟨fun i hi => (h1 i hi).agree hA (lt hi) (fun k hk => h5 i k (gk_lv_ne hi) hk), fun i j hi hj li lj e => ?_, fun i hi => h3 i (Nat.le_of_succ_le hi), fun i hi => ?_, fun i k hi hk => (h5 i k hi hk).mono (Nat.le_succ _), h6, Nat.le_succ_of_le h7, h8, h9, h10, ?_⟩
  · rw [hA i (lt li), hA j (lt lj)] at e
    exact h2 i j hi hj li lj e
  · rw [hA i (lt hi)]
    exact h4 i hi
  · exact h11.agree hA (fun k hk => h5 0 k (by rw [h8]; decide) (by rw [h9]; exact hk))
section GKC
variable {ρ : Type} {w : ρ → gk_U} {d : Nat} {y : MethodName} {cc : ByteArray} {nL : Nat} {ret : Option FieldType} {et : List ExceptionTableEntry} {x : Option (ρ × gk_H)} {pc : Nat} {L : List (Nat × Value)} {st sk : List Value} {h : gk_H}
variable {ρ' : Type} {w' : ρ' → gk_U} {x' : Option (ρ' × gk_H)} {f : ρ' × gk_H → Option (ρ × gk_H)} {y' : MethodName} {cc' : ByteArray} {nL' : Nat} {ret' : Option FieldType} {as : List Value}
/-- a call of a method that may throw; what it throws is caught here -/
theorem gk_invVC (c : Nat) {r0 : vw_C} {a : Option Nat} {ix n : Nat} (hd : decode cc pc = .ok (.invokevirtual ix, 3)) (hc : gk_cl[c]? = some r0) (hcy : y'.cls = r0.1) (hsk : as.reverse ++ va_rf a :: st = sk) (hn : as.length = n) (h8 : (st.map fun v => v.category).sum ≤ 8)
    (hl : Cond.methodLink y.cls ix y' ∈ gk_T) (hst : Cond.instanceMethod y' ∈ gk_T) (hsel : Cond.selects y'.cls y' y' ∈ gk_T) (hini : Cond.initialized y'.cls ∈ gk_T) (hcode : Cond.code y' cc' nL' ret' ∈ gk_T)
    (hy : y'.cls ≠ "java/lang/invoke/MethodHandle" ∧ y'.cls ≠ "java/lang/invoke/VarHandle" ∧ (parseMethodDescriptor y'.desc).map (fun d => d.parameters.length) = some n) (hnl : nL' ≤ 45)
    (hM : ∀ r h1, x' = some (r, h1) → gk_M d y' cc' nL' ret' (va_rf a :: as) h (w' r) h1) (kk : ∀ r h1 v, w' r = .inl v → gk_P w (d + 1) y cc nL ret et (f (r, h1)) (pc + 3) L (v.toList ++ st) h1)
    (kx : ∀ r h1 E, w' r = .inr E → f (r, h1) = none ∨ ∃ (pre : List ExceptionTableEntry) (z : ExceptionTableEntry) (suf : List ExceptionTableEntry) (name : String), et = pre ++ z :: suf ∧ (∀ u ∈ pre, covers u pc = false ∨ (u.catchType ≠ 0 ∧ ∃ nm : String, Cond.classLink y.cls u.catchType nm ∈ gk_T ∧ (E, nm) ∈ gk_exN)) ∧ covers z pc = true ∧ z.catchType ≠ 0 ∧ Cond.classLink y.cls z.catchType name ∈ gk_T ∧ (E, name) ∈ gk_exC ∧
      gk_P w (d + 1) y cc nL ret et (f (r, h1)) z.handlerPc L [va_rf (some h1.1)] (gk_cgt h1)) : gk_P w (d + 1) y cc nL ret et ((gk_rcv h a c).bind fun _ => x'.bind f) pc L sk h := by
  cases hx' : x' with
  | none =>
    simp only [Option.bind_none]
    cases gk_rcv h a c <;> exact gk_none
  | some q =>
    obtain ⟨r, h1⟩ := q
    have hM1 := hM r h1 hx'
    cases hw : w' r with
    | inl v =>
      rw [hw] at hM1
      exact gk_invV (w' := fun _ : Unit => v) (x' := some ((), h1)) (f := fun q => f (r, q.2)) c hd hc hcy hsk hn h8 hl hst hsel hini hcode hy hnl (fun u h2 e => by cases e; exact hM1) (fun u h2 => by
        intro rr h' hx
        refine kk r h2 v hw rr h' hx)
    | inr E =>
      rw [hw] at hM1
      rcases kx r h1 E hw with hno | ⟨pre, z, suf, name, het, hpre, hz, hz0, hzl, hzc, kh⟩
      · have : ((gk_rcv h a c).bind fun _ => (some (r, h1)).bind f) = none := by
          cases gk_rcv h a c
          · rfl
          · exact hno
        rw [this]
        exact gk_none
      refine gk_rcv_bind fun i hi ht => ?_
      subst hi
      intro rr h' hx
      have hx2 : f (r, h1) = some (rr, h') := hx
      obtain ⟨k1, k2, k3⟩ := kh rr h' hx2
      obtain ⟨m1, m2, m3⟩ := hM1
      have k1' : h1.1 + 1 ≤ h'.1 := k1
      have k2' : h1.2.1 ≤ h'.2.1 := k2
      refine ⟨Nat.le_trans m1 (Nat.le_of_succ_le k1'), Nat.le_trans m2 k2', fun p l e R s m args below meth cd H locs cells slots ls D ad B n0 u0 mc ms Qc XC C S r1 r2' r3 r4 E0 => ?_⟩
      obtain ⟨s1, s2, s3, s4, s5, s6, s7, s8, s9⟩ := S
      have hts := C.2.2.2.2.2.1
      have hsk' : (va_rf (some i) :: as).reverse ++ st = sk := by rw [List.reverse_cons, List.append_assoc]; exact hsk
      obtain ⟨ok1, ok2⟩ := gk_sk_ok hsk' _ s6
      have hmap : sk.map (gk_v ad) = (as.map (gk_v ad)).reverse ++ .ref (ad i) :: st.map (gk_v ad) := by
        rw [← hsk, List.map_append, List.map_reverse]
        rfl
      have hB : ∀ U : State, U.heap = H → s.WarmedH U.vm → gk_B D ad B h U := fun U hU hW => ⟨by rw [hU]; exact s1.moved hW.alike, s2.warm hW, by rw [hU]; exact s1.2.2.2.2.2.1⟩
      have hMet := m3 l D ad B C.2.2.2.2.2.2.2.2.1 ok1
      have hr := vx_runV (C := y'.cls) (b := ad i) (As := as.map (gk_v ad)) (rest := st.map (gk_v ad)) (H := H) (locs := locs) (cells := cells) (slots := slots) (below := below) (e := e) (meth := meth) (g := F0 m pc ls (sk.map (gk_v ad))) ⟨C.1, C.2.1, C.2.2.1, C.2.2.2.2.1, hts⟩ hMet ⟨gk_cb hts hcode hl hini hy hnl C.2.2.2.2.2.2.2.2.2.2.1 C.2.2.2.2.2.2.2.2.2.2.2, hts _ hst, hts _ hsel⟩ ⟨gk_blind, by rw [hcy]; exact gk_recv s1 ht hc, fun U hU hW => ⟨rfl, hB U hU hW⟩⟩ rfl (by rw [List.length_map]; exact hn) s4.1 hmap (lv_room (by rw [gk_cat_map]; exact h8)) hd ⟨by omega, by omega⟩
      intro T hT X
      rcases hr T hT X with ⟨v, st₀, t, T', Lc, h0, X', hL, e1, e2, hF, -⟩ | ⟨q, st₀, t, T', Lc, E', ce, h0, X', hL, e1, e2, hXC, hce, hcv, hcl, stp⟩
      · exact hF.elim
      · obtain ⟨rfl, ad', hA, hR, hF⟩ := hXC
        have hal : s.vm.Alike t.vm := by rw [← e2]; exact X'.warmed.alike
        have hR1 : gk_R D ad' B h1 s T'.heap := by rw [e1]; exact hR.moved hal.symm
        have hR' := hR1.caught (q := q)
        have hA1 : ∀ i, i < h.1 → (fun j => if j = h1.1 then q else ad' j) i = ad i := fun i hi => (if_neg (Nat.ne_of_lt (Nat.lt_of_lt_of_le hi m1))).trans (hA i hi)
        have hcc : gk_c ≤ h.1 := s1.2.2.2.2.2.2.1
        have eL : (L.map fun u => (u.1, gk_v (fun j => if j = h1.1 then q else ad' j) u.2)) = L.map fun u => (u.1, gk_v ad u.2) := List.map_congr_left fun u hu => by rw [gk_v_ok hA1 (s5 u hu)]
        have hk := k3 p l e R s m args below meth cd T'.heap (locs ++ Lc) (cells + (h1.1 - h.1) + 1) (slots + (h1.2.1 - h.2.1)) ls D (fun j => if j = h1.1 then q else ad' j) B n0 u0 mc ms Qc XC C
          ⟨hR', s2.agree (fun i hi => hA1 i (Nat.lt_of_lt_of_le hi hcc)), ⟨?_, ?_, ?_⟩, by rw [eL]; exact s4, fun u hu => (s5 u hu).mono (Nat.le_succ_of_le m1), ?_, ?_, ?_, s9⟩ r1 r2' r3 r4 (E0.mono hA1 (Nat.le_succ_of_le m1))
        · have hk2 : W p l e R s m args below meth cd T'.heap (locs ++ Lc) (cells + (h1.1 - h.1)) (slots + (h1.2.1 - h.2.1)) (vx_MQ below Qc XC args s mc ms fun a => B ≤ a) (F0 m z.handlerPc ls [.ref q]) := by
            intro T2 hT2 X2
            have hk3 := hk T2 hT2 (stand_widen X2 (Nat.le_succ _) (Nat.le_refl _))
            have e9 : [va_rf (some h1.1)].map (gk_v fun j => if j = h1.1 then q else ad' j) = [.ref q] := by
              show [Value.ref (if h1.1 = h1.1 then q else ad' h1.1)] = _
              rw [if_pos rfl]
            rw [e9] at hk3
            exact hk3
          have ho := vx_catch (pc := pc) (rest := st.map (gk_v ad)) (ls := ls) C.2.2.2.2.1 pre z suf (C.2.2.2.2.2.2.2.1.trans het) (fun u hu => by
            rcases hpre u hu with v1 | ⟨v1, nm, v2, v3⟩
            · exact Or.inl v1
            · exact Or.inr ⟨v1, nm, hts _ v2, s2.1.2 _ v3⟩) hz hz0 (hts _ hzl) (va_Nw.use rfl (s2.1.1 _ hzc)) (by rw [e1]; exact hce) hcv hcl hk2
          obtain ⟨t3, a1, b1⟩ := ho T' rfl X'
          exact ⟨t3, stp.trans a1, b1⟩
        · have := hF.1
          rw [h0] at this
          rw [e1]
          exact Nat.le_trans s3.1 this
        · intro u q1 q2
          rw [e1, hF.2 u (by rw [h0]; exact Nat.lt_of_lt_of_le q1 s3.1) q2, h0]
          exact s3.2.1 u q1 q2
        · intro u hu
          rcases List.mem_append.mp hu with y1 | y1
          · exact s3.2.2 u y1
          · exact hL u y1
        · exact gk_cn (Nat.lt_succ_self _) (fun v hv => nomatch hv)
        · show cells + (h1.1 - h.1) + 1 + n0 = h1.1 + 1
          omega
        · show slots + (h1.2.1 - h.2.1) + u0 = h1.2.1
          omega
end GKC
/-! CONTRACTS of methods with tables, that end with a value -/
def gk_wsH (y : MethodName) (cc : ByteArray) (nL : Nat) (ret : Option FieldType) (hh : List (Nat × Nat × Nat × Nat)) : List Cond := Cond.codeWith y cc nL ret hh :: gk_T
def gk_MH (d : Nat) (y : MethodName) (cc : ByteArray) (nL : Nat) (ret : Option FieldType) (hh : List (Nat × Nat × Nat × Nat)) (as : List Value) (h : gk_H) (v : Option Value) (h' : gk_H) : Prop :=
  h.1 ≤ h'.1 ∧ h.2.1 ≤ h'.2.1 ∧ ∀ (l : Launch) (D : va_G) (ad : Nat → Nat) (B : Nat), l.stackTraces = false → (∀ v ∈ as, gk_ok h.1 v) →
    Met l y (gk_wsH y cc nL ret hh) (gk_rm d (h'.1 - h.1) (h'.2.1 - h.2.1)) (gk_Pc D ad B as h) (gk_Qc D ad B h.1 v h') (h'.1 - h.1) (h'.2.1 - h.2.1) (fun a => B ≤ a)
theorem gk_MH_of {d : Nat} {y : MethodName} {cc : ByteArray} {nL : Nat} {ret : Option FieldType} {hh : List (Nat × Nat × Nat × Nat)} {as : List Value} {L : List (Nat × Value)} {h : gk_H} {v : Option Value} {h' : gk_H} (hy : plainName y.cls = true) (hL : lv_args 0 as = L) (hn : (lg_sl as).length ≤ nL) (hG : gk_G d y cc nL ret (tableOf hh) 0 L [] h (.inl v) h') : gk_MH d y cc nL ret hh as h v h' := by
  subst hL
  obtain ⟨g1, g2, g3⟩ := hG
  refine ⟨g1, g2, fun l D ad B hl hok => ?_⟩
  refine MetFree.of_bodyS (code := cc) (maxLocals := nL) (ret := ret) hy ?_ ?_
  · intro args s m hw hn
    obtain ⟨m9, meth, c, hn9, h1, h2, h3, h4, -, h5, h6, -⟩ := Cond.codeWith_spec (atoms_spec (ws := gk_wsH y cc nL ret hh) hw _ List.mem_cons_self)
    cases hn.symm.trans hn9
    exact ⟨meth, c, h1, h2, h3, h4, h5, h6⟩
  · intro p e s m args below meth c s₁ Bd hml hP _
    have hh0 : s₁.heap = s.heap := by rw [Bd.state]; rfl
    obtain ⟨rfl, hR, hN, hB⟩ := hP
    have hts := atoms_spec (ws := gk_wsH y cc nL ret hh) Bd.pre
    have hcat := gk_v_cat ad
    have hlen : (lg_sl (as.map (gk_v ad))).length ≤ nL := by rw [gk_sl_len _ hcat]; exact hn
    have kw : W p l e (gk_rm d (h'.1 - h.1) (h'.2.1 - h.2.1)) s m (as.map (gk_v ad)).toArray below meth c s.heap [] 0 0 (vx_MQ below (gk_Qc D ad B h.1 v h') (fun _ _ _ => False) (as.map (gk_v ad)).toArray s (h'.1 - h.1) (h'.2.1 - h.2.1) (fun a => B ≤ a)) (entryFrame m (as.map (gk_v ad)).toArray nL) := by
      rw [lg_entry_eq]
      refine g3 p l e (gk_rm d (h'.1 - h.1) (h'.2.1 - h.2.1)) s m _ below meth c s.heap [] 0 0 _ D ad B h.1 h.2.1 (h'.1 - h.1) (h'.2.1 - h.2.1) _ _ ?_ ?_ ?_ ?_ (Nat.sub_add_cancel g1) (Nat.sub_add_cancel g2) (fun ad' t hA hR hvm hF hok' => ⟨ad', hA, hR, rfl, hok', hF⟩)
      · exact ⟨Bd.exec, Bd.bytes, hml, Bd.returns, findClass_of_methodNamed Bd.named, fun w hw => hts w (List.mem_cons_of_mem _ hw), Bd.notSynchronized, vx_table (x := y) Bd (hts _ List.mem_cons_self), hl, (name_of_methodNamed Bd.named Bd.method).1, Nat.le_refl _, Nat.le_refl _⟩
      · refine ⟨hR, hN, va_S.rf, ?_, fun q hq => hok _ (gk_args_mem as 0 q hq), (fun v hv => nomatch hv), Nat.zero_add _, Nat.zero_add _, hB⟩
        rw [← gk_args_map _ hcat]
        exact lv_entry (as.map (gk_v ad)) hlen
      · show h'.1 ≤ h'.1 - h.1 + h.1
        omega
      · show h'.2.1 ≤ h'.2.1 - h.2.1 + h.2.1
        omega
    obtain ⟨t, a1, o, b1, b2, b3⟩ := kw s₁ hh0 (Stand.of_body Bd)
    refine ⟨t, o, a1, b1, b2, ?_⟩
    rcases b3 with b3 | ⟨q, -, E, ce, Lz, b4, -⟩
    · exact b3
    · exact b4.elim
section GKCS
variable {ρ : Type} {w : ρ → gk_U} {d : Nat} {y : MethodName} {cc : ByteArray} {nL : Nat} {ret : Option FieldType} {et : List ExceptionTableEntry} {x : Option (ρ × gk_H)} {pc : Nat} {L : List (Nat × Value)} {st sk : List Value} {h : gk_H}
variable {ρ' : Type} {w' : ρ' → Option Value} {x' : Option (ρ' × gk_H)} {f : ρ' × gk_H → Option (ρ × gk_H)} {y' : MethodName} {cc' : ByteArray} {nL' : Nat} {ret' : Option FieldType} {as : List Value}
theorem gk_invH {hh : List (Nat × Nat × Nat × Nat)} (hok : ∀ n, (∀ v ∈ sk, gk_ok n v) → (∀ v ∈ as, gk_ok n v) ∧ ∀ v ∈ st, gk_ok n v) (hM : ∀ r h1, x' = some (r, h1) → gk_MH d y' cc' nL' ret' hh as h (w' r) h1)
    (hrun : ∀ (p : Program) (l : Launch) (e : Env) (R : Room) (s : State) (m : MethodId) (args : Array Value) (below : List Frame) (meth : Method) (c : Code) (H : Heap) (locs : List Loc) (cells slots : Nat) (ls : Array Slot) (D : va_G) (ad : Nat → Nat) (B mc ms : Nat) (r : ρ') (h1 : gk_H), gk_Cx p l R s m args meth c y cc nL ret et (d + 1) → gk_R D ad B h s H → gk_N ad s → (∀ U : State, U.heap = H → s.WarmedH U.vm → gk_B D ad B h U) → ls.size = nL → cells + mc ≤ R.cells ∧ slots + ms ≤ R.slots →
      Met l y' (gk_wsH y' cc' nL' ret' hh) (gk_rm d mc ms) (gk_Pc D ad B as h) (gk_Qc D ad B h.1 (w' r) h1) mc ms (fun a => B ≤ a) →
      va_Run p l e R s m args below meth c H locs cells slots mc ms (F0 m pc ls (sk.map (gk_v ad))) (st.map (gk_v ad)) (gk_Qc D ad B h.1 (w' r) h1 (as.map (gk_v ad)).toArray) (fun a => B ≤ a))
    (kk : ∀ r h1, gk_P w (d + 1) y cc nL ret et (f (r, h1)) (pc + 3) L ((w' r).toList ++ st) h1) : gk_P w (d + 1) y cc nL ret et (x'.bind f) pc L sk h := by
  intro rr h' hx
  cases hx' : x' with
  | none => rw [hx'] at hx; cases hx
  | some q =>
    obtain ⟨r, h1⟩ := q
    rw [hx'] at hx
    obtain ⟨k1, k2, k3⟩ := kk r h1 rr h' hx
    obtain ⟨m1, m2, m3⟩ := hM r h1 hx'
    refine ⟨Nat.le_trans m1 k1, Nat.le_trans m2 k2, fun p l e R s m args below meth c H locs cells slots ls D ad B n0 u0 mc ms Qc XC C S r1 r2 r3 r4 E => ?_⟩
    obtain ⟨s1, s2, s3, s4, s5, s6, s7, s8, s9⟩ := S
    obtain ⟨ok1, ok2⟩ := hok _ s6
    have hB : ∀ U : State, U.heap = H → s.WarmedH U.vm → gk_B D ad B h U := fun U hU hW => ⟨by rw [hU]; exact s1.moved hW.alike, s2.warm hW, by rw [hU]; exact s1.2.2.2.2.2.1⟩
    have hr := hrun p l e R s m args below meth c H locs cells slots ls D ad B (h1.1 - h.1) (h1.2.1 - h.2.1) r h1 C s1 s2 hB s4.1 ⟨by omega, by omega⟩ (m3 l D ad B C.2.2.2.2.2.2.2.2.1 ok1)
    intro T hT X
    obtain ⟨v, st₀, t, T', Lc, h0, X', hL, e1, e2, ⟨ad', hA, hR, hv, hokv, hF⟩, stp⟩ := hr T hT X
    cases hv
    have hal : s.vm.Alike t.vm := by rw [← e2]; exact X'.warmed.alike
    have hR' : gk_R D ad' B h1 s T'.heap := by rw [e1]; exact hR.moved hal.symm
    have hc : gk_c ≤ h.1 := s1.2.2.2.2.2.2.1
    have eL : (L.map fun q => (q.1, gk_v ad' q.2)) = L.map fun q => (q.1, gk_v ad q.2) := List.map_congr_left fun q hq => by rw [gk_v_ok hA (s5 q hq)]
    have eS : st.map (gk_v ad') = st.map (gk_v ad) := List.map_congr_left fun z hz => gk_v_ok hA (ok2 z hz)
    have eT : ((w' r).toList ++ st).map (gk_v ad') = ((w' r).map (gk_v ad')).toList ++ st.map (gk_v ad) := by
      rw [List.map_append, eS]
      cases w' r <;> rfl
    have hk := k3 p l e R s m args below meth c T'.heap (locs ++ Lc) (cells + (h1.1 - h.1)) (slots + (h1.2.1 - h.2.1)) ls D ad' B n0 u0 mc ms Qc XC C
      ⟨hR', s2.agree (fun i hi => hA i (Nat.lt_of_lt_of_le hi hc)), ⟨?_, ?_, ?_⟩, by rw [eL]; exact s4, fun q hq => (s5 q hq).mono m1, ?_, by omega, by omega, s9⟩ r1 r2 r3 r4 (E.mono hA m1)
    · rw [eT] at hk
      obtain ⟨t2, a1, b1⟩ := hk T' rfl X'
      exact ⟨t2, stp t2 a1, b1⟩
    · have := hF.1
      rw [h0] at this
      rw [e1]
      exact Nat.le_trans s3.1 this
    · intro q q1 q2
      rw [e1, hF.2 q (by rw [h0]; exact Nat.lt_of_lt_of_le q1 s3.1) q2, h0]
      exact s3.2.1 q q1 q2
    · intro q hq
      rcases List.mem_append.mp hq with z | z
      · exact s3.2.2 q z
      · exact hL q z
    · intro z hz
      rcases List.mem_append.mp hz with q | q
      · cases hw : w' r with
        | none => rw [hw] at q; cases q
        | some u =>
          rw [hw] at q
          rw [List.mem_singleton.mp q]
          exact hokv u hw
      · exact (ok2 z q).mono m1
theorem gk_goodS {hh : List (Nat × Nat × Nat × Nat)} {ix : Nat} (hcode : Cond.codeWith y' cc' nL' ret' hh ∈ gk_T) (hl : Cond.methodLink y.cls ix y' ∈ gk_T) (hst : Cond.static y' ∈ gk_T) (hini : Cond.initialized y'.cls ∈ gk_T) : GoodIn gk_T (va_wsS y.cls ix y' (gk_wsH y' cc' nL' ret' hh)) := by
  intro u hu
  have h1 : u ∈ gk_T := by
    unfold va_wsS gk_wsH at hu
    simp only [List.cons_append, List.nil_append, List.mem_cons] at hu
    rcases hu with e | e | e | e | e
    · rw [e]; exact hl
    · rw [e]; exact hst
    · rw [e]; exact hini
    · rw [e]; exact hcode
    · exact e
  exact ⟨h1, good_of_word (gk_T_good u h1)⟩
/-- a static call of a method with a table -/
theorem gk_invSH {hh : List (Nat × Nat × Nat × Nat)} {ix n : Nat} (hd : decode cc pc = .ok (.invokestatic ix, 3)) (hsk : as.reverse ++ st = sk) (hn : as.length = n) (h8 : (st.map fun v => v.category).sum ≤ 8)
    (hl : Cond.methodLink y.cls ix y' ∈ gk_T) (hst : Cond.static y' ∈ gk_T) (hini : Cond.initialized y'.cls ∈ gk_T) (hcode : Cond.codeWith y' cc' nL' ret' hh ∈ gk_T)
    (hy : y'.cls ≠ "java/lang/invoke/MethodHandle" ∧ y'.cls ≠ "java/lang/invoke/VarHandle" ∧ (parseMethodDescriptor y'.desc).map (fun d => d.parameters.length) = some n) (hnl : nL' ≤ 45)
    (hM : ∀ r h1, x' = some (r, h1) → gk_MH d y' cc' nL' ret' hh as h (w' r) h1) (kk : ∀ r h1, gk_P w (d + 1) y cc nL ret et (f (r, h1)) (pc + 3) L ((w' r).toList ++ st) h1) : gk_P w (d + 1) y cc nL ret et (x'.bind f) pc L sk h := by
  refine gk_invH (gk_sk_ok hsk) hM (fun p l e R s m args below meth c H locs cells slots ls D ad B mc ms r h1 C hR hN hB hz hf hMet => ?_) kk
  have hts := C.2.2.2.2.2.1
  have hlo := C.2.2.2.2.2.2.2.2.2.2.2
  exact vx_runSW (As := as.map (gk_v ad)) (rest := st.map (gk_v ad)) ⟨C.1, C.2.1, C.2.2.1, C.2.2.2.2.1, hts⟩ hMet (vx_cwSW n hts (gk_goodS hcode hl hst hini) rfl rfl rfl hy ⟨C.2.2.2.2.2.2.2.2.2.2.1, by show 8 + (nL' + 11) + 64 * d ≤ R.locals; omega⟩) ⟨gk_blind, fun U hU hW => ⟨rfl, hB U hU hW⟩⟩ rfl (by rw [List.length_map]; exact hn) hz (gk_sk_map ad hsk) (lv_room (by rw [gk_cat_map]; exact h8)) hd hf
end GKCS
