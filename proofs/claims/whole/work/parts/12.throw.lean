/-! ROWS: what is thrown -/
def gk_thrown (h : gk_H) : gk_H := (h.1 + 1, h.2.1 + 6, h.2.2)
theorem gk_R.thrown {D : va_G} {ad : Nat → Nat} {B : Nat} {h : gk_H} {s : State} {H : Heap} (hr : gk_R D ad B h s H) {n k : Nat} (hn : h.1 ≤ n) : gk_R D ad B (n, k, h.2.2) s H := by
  obtain ⟨h1, h2, h3, h4, h5, h6, h7, h8, h9, h10, h11⟩ := hr
  exact ⟨h1, h2, fun i hi => h3 i (Nat.le_trans hn hi), h4, fun i k hi hk => (h5 i k hi hk).mono hn, h6, Nat.le_trans h7 hn, h8, h9, h10, h11⟩
def gk_names : List String := ["java/lang/RuntimeException", "java/lang/Exception"]
def gk_exb (w : Cond) : Bool := match w with
  | .castable a b => decide ((a, b) ∈ gk_exC)
  | .declares q => decide (q ∈ gk_exD)
  | _ => false
theorem gk_exb_spec {ad : Nat → Nat} {s : State} {args : Array Value} (hN : gk_N ad s) {w : Cond} (h : gk_exb w = true) : w.before args s = true := by
  unfold gk_exb at h
  split at h
  · exact va_Nw.use rfl (hN.1.1 _ (of_decide_eq_true h))
  · exact va_Nw.use rfl (hN.2.1 _ (of_decide_eq_true h))
  · cases h
section GKT
variable {ρ : Type} {w : ρ → gk_U} {d : Nat} {y : MethodName} {cc : ByteArray} {nL : Nat} {ret : Option FieldType} {et : List ExceptionTableEntry} {x : Option (ρ × gk_H)} {pc : Nat} {L : List (Nat × Value)} {st sk : List Value} {h : gk_H}
theorem gk_throw {r : ρ} {E text : String} {ik is ic : Nat} (hw : w r = .inr E) (hd8 : 8 ≤ d)
    (hE : Jvm.Bundle.fit E = true) (hnm : ∀ n ∈ gk_names, Jvm.Bundle.fit n = true) (hk : Cond.classLink y.cls ik E ∈ gk_T) (hini : Cond.initialized E ∈ gk_T) (hms : (y.cls, is, text) ∈ gk_ms)
    (hat : (vx_atS y.cls ic E gk_names).all (fun w => decide (w ∈ gk_T) || gk_exb w) = true) (hgood : ∀ w ∈ Cond.classLink y.cls ik E :: Cond.initialized E :: vx_atS y.cls ic E gk_names, vx_ot w = true)
    (d0 : decode cc pc = .ok (.new ik, 3)) (d3 : decode cc (pc + 3) = .ok (.dup, 1)) (d4 : decode cc (pc + 4) = .ok (.ldc is, 2)) (d6 : decode cc (pc + 6) = .ok (.invokespecial ic, 3)) (d9 : decode cc (pc + 9) = .ok (.athrow, 1)) (h8 : (st.map fun v => v.category).sum ≤ 8) :
    gk_P w d y cc nL ret [] (some (r, gk_thrown h)) pc L st h := by
  intro rr h' hx
  cases hx
  refine ⟨Nat.le_succ _, Nat.le_add_right _ _, fun p l e R s m args below meth c H locs cells slots ls D ad B n0 u0 mc ms Qc XC C S r1 r2 r3 r4 E0 => ?_⟩
  obtain ⟨s1, s2, s3, s4, s5, s6, s7, s8, s9⟩ := S
  obtain ⟨c1, c2, c3, c4, c5, c6, c7, c8, c9, c10, c11, c12⟩ := C
  obtain ⟨sa, hsa⟩ := s2.2.2.2.2.2 _ hms
  have e1 : (gk_thrown h).1 = h.1 + 1 := rfl
  have e2 : (gk_thrown h).2.1 = h.2.1 + 6 := rfl
  rw [e1] at r1 r3
  rw [e2] at r2 r4
  have hB : B ≤ s.heap.size := s9
  have hZ : gk_Z ad B (h.2.2 0).2.2 s H := s1.2.2.2.2.2.2.2.2.2.2
  have back : ∀ a : Nat, a < H.size → ¬ B ≤ a → s.heap[a]? = H[a]? := fun a h1 h2 => (s3.2.1 a (by omega) h2).symm
  have e9 : (gk_names.length + 3 < R.frames) := by show 2 + 3 < R.frames; omega
  refine vx_throwS (A := fun a => B ≤ a) c1 c2 c9 c5 hE hnm (c6 _ hk) (c6 _ hini) hsa (fun w hw => ?_) hgood (vx_Zq.kept hZ.2.1 back) (vx_Zq.kept hZ.2.2 back) s3 (s4.1.trans c3.symm) d0 d3 d4 d6 d9 (fun z hz => by rw [c8] at hz; cases hz) e9 ?_ (by omega) (by omega) c7 (fun t hvm hsz hsame => ?_) s3.2.2 (by omega) (by omega)
  · have h1 := List.all_eq_true.mp hat w hw
    simp only [Bool.or_eq_true, decide_eq_true_eq] at h1
    rcases h1 with q | q
    · exact c6 _ q
    · exact gk_exb_spec s2 q
  · rw [gk_cat_map]
    show _ + (13 * (2 + 1) + 43) ≤ R.locals
    omega
  · have h9 := E0 ad t (fun _ _ => rfl) (((s1.kept hsz hsame).moved hvm).thrown (Nat.le_succ _)) hvm ⟨Nat.le_trans s3.1 hsz, fun q q1 q2 => by rw [hsame q (Nat.lt_of_lt_of_le q1 s3.1)]; exact s3.2.1 q q1 q2⟩
    rw [hw] at h9
    exact h9
variable {ρ' : Type} {w' : ρ' → gk_U} {x' : Option (ρ' × gk_H)} {f : ρ' × gk_H → Option (ρ × gk_H)} {y' : MethodName} {cc' : ByteArray} {nL' : Nat} {ret' : Option FieldType} {as : List Value}
/-- a call of a method that may throw; what it throws goes on -/
theorem gk_invVX (c : Nat) {r0 : vw_C} {a : Option Nat} {ix n : Nat} (hd : decode cc pc = .ok (.invokevirtual ix, 3)) (hc : gk_cl[c]? = some r0) (hcy : y'.cls = r0.1) (hsk : as.reverse ++ va_rf a :: st = sk) (hn : as.length = n) (h8 : (st.map fun v => v.category).sum ≤ 8)
    (hl : Cond.methodLink y.cls ix y' ∈ gk_T) (hst : Cond.instanceMethod y' ∈ gk_T) (hsel : Cond.selects y'.cls y' y' ∈ gk_T) (hini : Cond.initialized y'.cls ∈ gk_T) (hcode : Cond.code y' cc' nL' ret' ∈ gk_T)
    (hy : y'.cls ≠ "java/lang/invoke/MethodHandle" ∧ y'.cls ≠ "java/lang/invoke/VarHandle" ∧ (parseMethodDescriptor y'.desc).map (fun d => d.parameters.length) = some n) (hnl : nL' ≤ 45)
    (hM : ∀ r h1, x' = some (r, h1) → gk_M d y' cc' nL' ret' (va_rf a :: as) h (w' r) h1) (kk : ∀ r h1 v, w' r = .inl v → gk_P w (d + 1) y cc nL ret [] (f (r, h1)) (pc + 3) L (v.toList ++ st) h1)
    (kx : ∀ r h1 E, w' r = .inr E → ∃ r2, f (r, h1) = some (r2, h1) ∧ w r2 = .inr E) : gk_P w (d + 1) y cc nL ret [] ((gk_rcv h a c).bind fun _ => x'.bind f) pc L sk h := by
  cases hx' : x' with
  | none =>
    simp only [Option.bind_none]
    cases gk_rcv h a c <;> exact gk_none
  | some q =>
    obtain ⟨r, h1⟩ := q
    have hM1 := hM r h1 hx'
    cases hw : w' r with
    | inl v =>
      rw [hw] at hM1
      exact gk_invV (w' := fun _ : Unit => v) (x' := some ((), h1)) (f := fun q => f (r, q.2)) c hd hc hcy hsk hn h8 hl hst hsel hini hcode hy hnl (fun u h2 e => by cases e; exact hM1) (fun u h2 => by
        intro rr h' hx
        refine kk r h2 v hw rr h' hx)
    | inr E =>
      rw [hw] at hM1
      obtain ⟨r2, hf, hw2⟩ := kx r h1 E hw
      refine gk_rcv_bind fun i hi ht => ?_
      subst hi
      intro rr h' hx
      have hx2 : f (r, h1) = some (rr, h') := hx
      rw [hf] at hx2
      cases hx2
      obtain ⟨m1, m2, m3⟩ := hM1
      refine ⟨m1, m2, fun p l e R s m args below meth cd H locs cells slots ls D ad B n0 u0 mc ms Qc XC C S r1 r2' r3 r4 E0 => ?_⟩
      obtain ⟨s1, s2, s3, s4, s5, s6, s7, s8, s9⟩ := S
      have hts := C.2.2.2.2.2.1
      have hsk' : (va_rf (some i) :: as).reverse ++ st = sk := by rw [List.reverse_cons, List.append_assoc]; exact hsk
      obtain ⟨ok1, ok2⟩ := gk_sk_ok hsk' _ s6
      have hmap : sk.map (gk_v ad) = (as.map (gk_v ad)).reverse ++ .ref (ad i) :: st.map (gk_v ad) := by
        rw [← hsk, List.map_append, List.map_reverse]
        rfl
      have hB : ∀ U : State, U.heap = H → s.WarmedH U.vm → gk_B D ad B h U := fun U hU hW => ⟨by rw [hU]; exact s1.moved hW.alike, s2.warm hW, by rw [hU]; exact s1.2.2.2.2.2.1⟩
      have hMet := m3 l D ad B C.2.2.2.2.2.2.2.2.1 ok1
      have hr := vx_runV (C := y'.cls) (b := ad i) (As := as.map (gk_v ad)) (rest := st.map (gk_v ad)) (H := H) (locs := locs) (cells := cells) (slots := slots) (below := below) (e := e) (meth := meth) (g := F0 m pc ls (sk.map (gk_v ad))) ⟨C.1, C.2.1, C.2.2.1, C.2.2.2.2.1, hts⟩ hMet ⟨gk_cb hts hcode hl hini hy hnl C.2.2.2.2.2.2.2.2.2.2.1 C.2.2.2.2.2.2.2.2.2.2.2, hts _ hst, hts _ hsel⟩ ⟨gk_blind, by rw [hcy]; exact gk_recv s1 ht hc, fun U hU hW => ⟨rfl, hB U hU hW⟩⟩ rfl (by rw [List.length_map]; exact hn) s4.1 hmap (lv_room (by rw [gk_cat_map]; exact h8)) hd ⟨by omega, by omega⟩
      intro T hT X
      rcases hr T hT X with ⟨v, st₀, t, T', Lc, h0, X', hL, e1, e2, hF, -⟩ | ⟨q, st₀, t, T', Lc, E', ce, h0, X', hL, e1, e2, hXC, hce, hcv, hcl, stp⟩
      · exact hF.elim
      · obtain ⟨rfl, ad', hA, hR, hF⟩ := hXC
        have hal : s.vm.Alike t.vm := by rw [← e2]; exact X'.warmed.alike
        have hfr : ∀ q : Nat, q < s.heap.size → ¬ B ≤ q → T'.heap[q]? = s.heap[q]? := fun q q1 q2 => by
          rw [e1, hF.2 q (by rw [h0]; exact Nat.lt_of_lt_of_le q1 s3.1) q2, h0]
          exact s3.2.1 q q1 q2
        have hsz : s.heap.size ≤ T'.heap.size := by
          have := hF.1
          rw [h0] at this
          rw [e1]
          exact Nat.le_trans s3.1 this
        have ho := vx_out (p := p) (l := l) (e := e) (R := R) (s := s) (m := m) (args := args) (below := below) (meth := meth) (c := cd) (H := T'.heap) (locs := locs ++ Lc) (cells := cells + (h1.1 - h.1)) (slots := slots + (h1.2.1 - h.2.1)) (free := fun a => B ≤ a) (ls := ls) (rest := st.map (gk_v ad)) (Qc := Qc) (XC := XC) (pc := pc) (E := E') (ce := ce) (q := q) (mc := mc) (ms := ms)
          (fun z hz => by rw [C.2.2.2.2.2.2.2.1] at hz; cases hz) C.2.2.2.2.2.2.1 (by rw [e1]; exact hce) hcv hcl (fun t2 ht2 hvm2 => ?_) (fun z hz => by
            rcases List.mem_append.mp hz with y1 | y1
            · exact s3.2.2 z y1
            · exact hL z y1) (by omega) (by omega)
        · obtain ⟨t3, a1, b1⟩ := ho T' rfl X'
          exact ⟨t3, stp.trans a1, b1⟩
        · have h9 := E0 ad' t2 hA (by rw [ht2, e1]; exact (hR.moved (hal.symm)).moved hvm2) hvm2 ⟨by rw [ht2]; exact hsz, fun q q1 q2 => by rw [ht2]; exact hfr q q1 q2⟩
          rw [hw2] at h9
          exact h9
end GKT
