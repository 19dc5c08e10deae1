/-! ROWS: what is made; statics; texts -/
/-- a new object of class c, of n slots -/
def gk_mkO (h : gk_H) (c n : Nat) : gk_H := gk_new h n (10 + c, (gk_cl.map fun r => r.2.2).getD c 0, fun k => defaultValue (gk_ty c k))
def gk_mkA (h : gk_H) (t n : Nat) : gk_H := gk_new h n (t, n, fun _ => defaultValue (gk_tyt t))
def gk_nw {β : Type} (h : gk_H) (c n : Nat) (f : Option Nat → gk_H → β) : β := f (some h.1) (gk_mkO h c n)
def gk_na {β : Type} (h : gk_H) (t : Nat) (n : Int32) (f : Option Nat → gk_H → Option β) : Option β := if ¬ n < 0 ∧ n.toNatClampNeg ≤ 100000 then f (some h.1) (gk_mkA h t n.toNatClampNeg) else none
/-- a static field -/
def gk_gs (h : gk_H) (k : Nat) : Value := (h.2.2 0).2.2 k
theorem gk_v_def (ad : Nat → Nat) (ty : FieldType) : gk_v ad (defaultValue ty) = defaultValue ty := by cases ty <;> rfl
theorem gk_ok_def (n : Nat) (ty : FieldType) : gk_ok n (defaultValue ty) := by cases ty <;> trivial
theorem gk_S.made {D : va_G} {ad : Nat → Nat} {B n0 u0 nL n : Nat} {L : List (Nat × Value)} {st : List Value} {h : gk_H} {s : State} {H H' : Heap} {locs : List Loc} {cells slots : Nat} {ls : Array Slot} {o : gk_O}
    (S : gk_S D ad B n0 u0 nL L st h s H locs cells slots ls) (hr : gk_R D (fun j => if j = h.1 then H.size else ad j) B (gk_new h n o) s H') (hz : H'.size = H.size + 1) (hq : ∀ q, q < H.size → H'[q]? = H[q]?) :
    gk_S D (fun j => if j = h.1 then H.size else ad j) B n0 u0 nL L (va_rf (some h.1) :: st) (gk_new h n o) s H' locs (cells + 1) (slots + n) ls ∧ st.map (gk_v (fun j => if j = h.1 then H.size else ad j)) = st.map (gk_v ad) ∧ ∀ i, i < h.1 → (fun j => if j = h.1 then H.size else ad j) i = ad i := by
  obtain ⟨s1, s2, s3, s4, s5, s6, s7, s8, s9⟩ := S
  have hA : ∀ i, i < h.1 → (fun j => if j = h.1 then H.size else ad j) i = ad i := fun i hi => if_neg (Nat.ne_of_lt hi)
  have hc : gk_c ≤ h.1 := s1.2.2.2.2.2.2.1
  have e1 : (gk_new h n o).1 = h.1 + 1 := rfl
  have e2 : (gk_new h n o).2.1 = h.2.1 + n := rfl
  refine ⟨⟨hr, s2.agree (fun i hi => hA i (Nat.lt_of_lt_of_le hi hc)), ⟨by rw [hz]; exact Nat.le_trans s3.1 (Nat.le_succ _), fun q h1 h2 => ?_, s3.2.2⟩, ?_, fun q hq => ?_, gk_cn ?_ ?_, ?_, ?_, s9⟩, ?_, hA⟩
  · rw [hq q (Nat.lt_of_lt_of_le h1 s3.1)]
    exact s3.2.1 q h1 h2
  · have : (L.map fun q => (q.1, gk_v (fun j => if j = h.1 then H.size else ad j) q.2)) = L.map fun q => (q.1, gk_v ad q.2) := List.map_congr_left fun q hq => by rw [gk_v_ok hA (s5 q hq)]
    rw [this]
    exact s4
  · rw [e1]; exact (s5 q hq).mono (Nat.le_succ _)
  · show h.1 < (gk_new h n o).1
    rw [e1]; exact Nat.lt_succ_self _
  · intro v hv
    rw [e1]; exact (s6 v hv).mono (Nat.le_succ _)
  · rw [e1]; omega
  · rw [e2]; omega
  · exact List.map_congr_left fun v hv => gk_v_ok hA (s6 v hv)
section GKN
variable {ρ : Type} {w : ρ → gk_U} {d : Nat} {y : MethodName} {cc : ByteArray} {nL : Nat} {ret : Option FieldType} {et : List ExceptionTableEntry} {x : Option (ρ × gk_H)} {pc : Nat} {L : List (Nat × Value)} {st : List Value} {h : gk_H}
theorem gk_aast {a v : Option Nat} {i : Int32} {f : gk_H → Option (ρ × gk_H)} (hd : decode cc pc = .ok (.aastore, 1)) (kk : ∀ h1, gk_P w d y cc nL ret et (f h1) (pc + 1) L st h1) : gk_P w d y cc nL ret et ((gk_ast h a 7 i (va_rf v)).bind f) pc L (va_rf v :: .int i :: va_rf a :: st) h := by
  refine gk_store 7 rfl (fun p l e R s m args below meth cd H locs cells slots Q ls b cell ad rest hx hb g1 g2 g3 g4 k => ?_) kk
  cases v with
  | none => exact va_WaastN hx hb g1 g2.1 g2.2.1 g3 rfl rfl hd k
  | some q =>
    obtain ⟨kA, comp, z1, z2, z3⟩ := g2.2.2.2.2.2 _ rfl
    obtain ⟨cv, y1, y2, ⟨kv, y3⟩, y4⟩ := g4 rfl q rfl
    obtain ⟨y5, kc, y6⟩ := y4 comp z3
    exact W.aast hx hb g1 g2.1.1 g2.2.1 z1 z2 rfl y6 ⟨fun z => g3 (Or.inl z), Nat.not_le.mp fun z => g3 (Or.inr z)⟩ y1 y2 y3 y5 rfl rfl hd k
theorem gk_newO (c n : Nat) {r : vw_C} {ix : Nat} {f : Option Nat → gk_H → Option (ρ × gk_H)} (hd : decode cc pc = .ok (.new ix, 3)) (hc : gk_cl[c]? = some r) (hcl : Cond.classLink y.cls ix r.1 ∈ gk_T) (hins : Cond.instantiable r.1 n ∈ gk_T) (hini : Cond.initialized r.1 ∈ gk_T)
    (kk : ∀ a h1, gk_P w d y cc nL ret et (f a h1) (pc + 3) L (va_rf a :: st) h1) : gk_P w d y cc nL ret et (gk_nw h c n f) pc L st h := by
  intro rr h' hx
  obtain ⟨k1, k2, k3⟩ := kk _ _ rr h' hx
  have e1 : (gk_mkO h c n).1 = h.1 + 1 := rfl
  have e2 : (gk_mkO h c n).2.1 = h.2.1 + n := rfl
  rw [e1] at k1
  rw [e2] at k2
  refine ⟨by omega, by omega, fun p l e R s m args below meth cd H locs cells slots ls D ad B n0 u0 mc ms Qc XC C S r1 r2 r3 r4 E => ?_⟩
  have hr := S.1
  have hts := C.2.2.2.2.2.1
  have hK := hr.2.2.2.2.2.2.2.2.2.1 c r hc
  obtain ⟨-, -, -, -, -, -, s7, s8, -⟩ := id S
  refine W.newcK C.1 C.2.1 C.2.2.2.2.1 (hts _ hcl) (hts _ hins) (hts _ hini) rfl hd (by omega) (by omega) hK.2.1 rfl fun H1 kC hkC q1 q2 q3 => ?_
  have hN : (gk_cl.map fun r => r.2.2).getD c 0 = r.2.2 := by rw [List.getD_eq_getElem?_getD, List.getElem?_map, hc]; rfl
  have hr1 : gk_R D (fun j => if j = h.1 then H.size else ad j) B (gk_mkO h c n) s H1 := by
    refine hr.new (fun k _ => gk_ok_def _ _) (fun _ => ?_) (by show 10 + c ≠ 9; omega) q2 q3
    unfold gk_at
    have he : gk_el ((10 + c, (gk_cl.map fun r => r.2.2).getD c 0, fun k => defaultValue (gk_ty c k)) : gk_O).1 = none := by
      show gk_el (10 + c) = none
      unfold gk_el
      split <;> first | rfl | omega
    rw [he]
    refine ⟨blank (D.1 c) kC, (by show H1[if h.1 = h.1 then H.size else ad h.1]? = _; rw [if_pos rfl]; exact q1), ?_⟩
    refine ⟨Nat.le_add_right _ _, r, by rw [Nat.add_sub_cancel_left]; exact hc, hN, by rw [Nat.add_sub_cancel_left]; rfl, rfl, (fun z => by cases z), fun _ => rfl, fun k hk => ?_⟩
    rw [Nat.add_sub_cancel_left, gk_v_def]
    obtain ⟨cell, z1, -, -, z4⟩ := u_born (gk_ty c) hts (gk_laysAll hc) hK hkC q1 (gk_tys hc)
    cases z1.symm.trans q1
    exact z4 k hk
  obtain ⟨S1, e3, hA⟩ := S.made hr1 q2 q3
  have k9 := k3 p l e R s m args below meth cd H1 locs (cells + 1) (slots + n) ls D _ B n0 u0 mc ms Qc XC C S1 r1 r2 r3 r4 (E.mono hA (by rw [e1]; omega))
  rw [List.map_cons, e3, gk_v_ref] at k9
  simp only [Option.map_some, if_pos] at k9
  exact k9
theorem gk_newA (t : Nat) {aty : ArrayType} {n : Int32} {f : Option Nat → gk_H → Option (ρ × gk_H)} (hd : decode cc pc = .ok (.newarray aty, 2)) (hty : gk_el t = some (newarray.typeOf aty)) (hac : Cond.arrayClass (newarray.typeOf aty) ∈ gk_T) (h8 : componentBytes (newarray.typeOf aty) ≤ 8)
    (kk : ∀ a h1, gk_P w d y cc nL ret et (f a h1) (pc + 2) L (va_rf a :: st) h1) : gk_P w d y cc nL ret et (gk_na h t n f) pc L (.int n :: st) h := by
  intro rr h' hx
  unfold gk_na at hx
  by_cases hn : ¬ n < 0 ∧ n.toNatClampNeg ≤ 100000
  · rw [if_pos hn] at hx
    obtain ⟨k1, k2, k3⟩ := kk _ _ rr h' hx
    have e1 : (gk_mkA h t n.toNatClampNeg).1 = h.1 + 1 := rfl
    have e2 : (gk_mkA h t n.toNatClampNeg).2.1 = h.2.1 + n.toNatClampNeg := rfl
    rw [e1] at k1
    rw [e2] at k2
    refine ⟨by omega, by omega, fun p l e R s m args below meth cd H locs cells slots ls D ad B n0 u0 mc ms Qc XC C S r1 r2 r3 r4 E => ?_⟩
    have hr := S.1
    have hts := C.2.2.2.2.2.1
    obtain ⟨s1, s2, s3, s4, s5, s6, s7, s8, s9⟩ := id S
    have hS0 : gk_S D ad B n0 u0 nL L st h s H locs cells slots ls := ⟨s1, s2, s3, s4, s5, gk_dr1 s6, s7, s8, s9⟩
    have htt : gk_tyt t = newarray.typeOf aty := by unfold gk_tyt; rw [hty]; rfl
    have hob : ∀ C, newarray.typeOf aty ≠ .object C := by intro C; cases aty <;> intro q <;> cases q
    have ht9 : t ≠ 9 := by intro q; rw [q] at hty; cases hty
    have hb : n.toNatClampNeg * componentBytes (newarray.typeOf aty) ≤ 536870912 := by
      have := Nat.mul_le_mul hn.2 h8
      omega
    refine W.newa C.1 C.2.1 (hts _ hac) rfl hd rfl hn.1 hb (by omega) (by omega) fun cA kA comp g1 g2 g3 => ?_
    generalize hH1 : H.push { cls := cA, slots := Array.replicate n.toNatClampNeg (defaultValue (newarray.typeOf aty)), vm := .none } = H1
    have q1 : H1[H.size]? = some { cls := cA, slots := Array.replicate n.toNatClampNeg (defaultValue (newarray.typeOf aty)), vm := .none } := by rw [← hH1, Array.getElem?_push_size]
    have q2 : H1.size = H.size + 1 := by rw [← hH1, Array.size_push]
    have q3 : ∀ q, q < H.size → H1[q]? = H[q]? := by
      intro q hq
      rw [← hH1, Array.getElem?_push, if_neg (Nat.ne_of_lt hq)]
    have hr1 : gk_R D (fun j => if j = h.1 then H.size else ad j) B (gk_mkA h t n.toNatClampNeg) s H1 := by
      refine hr.new (fun k _ => gk_ok_def _ _) (fun _ => ?_) ht9 q2 q3
      unfold gk_at
      have he : gk_el ((t, n.toNatClampNeg, fun _ => defaultValue (gk_tyt t)) : gk_O).1 = some (newarray.typeOf aty) := hty
      rw [he]
      refine ⟨_, (by show H1[if h.1 = h.1 then H.size else ad h.1]? = _; rw [if_pos rfl]; exact q1), ⟨⟨(fun k z => by cases z), kA, g2, comp, g3⟩, (fun z => by cases z), by simp, by simp, fun j hj => ?_, fun C hC => absurd hC (hob C)⟩, fun _ => ⟨by simp, fun e9 => ?_⟩⟩
      · have hj2 : j < n.toNatClampNeg := hj
        simp [hj2, gk_v_def, htt]
      · rw [e9] at g1
        have e8 : "[" ++ FieldType.byte.toString = "[B" := by decide +kernel
        rw [e8] at g1
        exact g1
    obtain ⟨S1, e3, hA⟩ := hS0.made hr1 q2 q3
    have k9 := k3 p l e R s m args below meth cd H1 locs (cells + 1) (slots + n.toNatClampNeg) ls D _ B n0 u0 mc ms Qc XC C S1 r1 r2 r3 r4 (E.mono hA (by rw [e1]; omega))
    rw [List.map_cons, e3, gk_v_ref] at k9
    simp only [Option.map_some, if_pos] at k9
    exact k9
  · rw [if_neg hn] at hx
    cases hx
theorem gk_newQ {ix : Nat} {n : Int32} {f : Option Nat → gk_H → Option (ρ × gk_H)} (hd : decode cc pc = .ok (.anewarray ix, 3)) (hcl : Cond.classLink y.cls ix "ValueAlgebra$Value" ∈ gk_T)
    (kk : ∀ a h1, gk_P w d y cc nL ret et (f a h1) (pc + 3) L (va_rf a :: st) h1) : gk_P w d y cc nL ret et (gk_na h 7 n f) pc L (.int n :: st) h := by
  intro rr h' hx
  unfold gk_na at hx
  by_cases hn : ¬ n < 0 ∧ n.toNatClampNeg ≤ 100000
  · rw [if_pos hn] at hx
    obtain ⟨k1, k2, k3⟩ := kk _ _ rr h' hx
    have e1 : (gk_mkA h 7 n.toNatClampNeg).1 = h.1 + 1 := rfl
    have e2 : (gk_mkA h 7 n.toNatClampNeg).2.1 = h.2.1 + n.toNatClampNeg := rfl
    rw [e1] at k1
    rw [e2] at k2
    refine ⟨by omega, by omega, fun p l e R s m args below meth cd H locs cells slots ls D ad B n0 u0 mc ms Qc XC C S r1 r2 r3 r4 E => ?_⟩
    have hr := S.1
    have hts := C.2.2.2.2.2.1
    obtain ⟨s1, s2, s3, s4, s5, s6, s7, s8, s9⟩ := id S
    have hS0 : gk_S D ad B n0 u0 nL L st h s H locs cells slots ls := ⟨s1, s2, s3, s4, s5, gk_dr1 s6, s7, s8, s9⟩
    refine W.anew C.1 C.2.1 C.2.2.2.2.1 (hts _ hcl) s2.2.2.2.1.use rfl hd rfl hn.1 (by omega) (by omega) (by omega) fun cA kA comp g1 g2 g3 g4 => ?_
    have q2 : (H.push { cls := cA, slots := Array.replicate n.toNatClampNeg Value.null, vm := .none }).size = H.size + 1 := by simp
    have q3 : ∀ q, q < H.size → (H.push { cls := cA, slots := Array.replicate n.toNatClampNeg Value.null, vm := .none })[q]? = H[q]? := by
      intro q hq
      rw [Array.getElem?_push, if_neg (Nat.ne_of_lt hq)]
    have hr1 : gk_R D (fun j => if j = h.1 then H.size else ad j) B (gk_mkA h 7 n.toNatClampNeg) s (H.push { cls := cA, slots := Array.replicate n.toNatClampNeg Value.null, vm := .none }) := by
      refine hr.new (fun k _ => gk_ok_def h.1 (gk_tyt 7)) (fun _ => ?_) (by show (7 : Nat) ≠ 9; decide) q2 q3
      unfold gk_at
      have he : gk_el ((7, n.toNatClampNeg, fun _ => defaultValue (gk_tyt 7)) : gk_O).1 = some (.object "ValueAlgebra$Value") := rfl
      rw [he]
      refine ⟨{ cls := cA, slots := Array.replicate n.toNatClampNeg Value.null, vm := .none }, (by show (H.push _)[if h.1 = h.1 then H.size else ad h.1]? = _; rw [if_pos rfl]; simp), ⟨⟨(fun k z => by cases z), kA, g2, comp, g3⟩, (fun z => by cases z), by simp, by simp, fun j hj => ?_, fun C hC => ?_⟩, fun _ => ⟨by simp, fun e9 => by cases e9⟩⟩
      · have hj2 : j < n.toNatClampNeg := hj
        simp [hj2]
        rfl
      · cases hC
        exact ⟨kA, comp, g2, g3, g4⟩
    obtain ⟨S1, e3, hA⟩ := hS0.made hr1 q2 q3
    have k9 := k3 p l e R s m args below meth cd _ locs (cells + 1) (slots + n.toNatClampNeg) ls D _ B n0 u0 mc ms Qc XC C S1 r1 r2 r3 r4 (E.mono hA (by rw [e1]; omega))
    rw [List.map_cons, e3, gk_v_ref] at k9
    simp only [Option.map_some, if_pos] at k9
    exact k9
  · rw [if_neg hn] at hx
    cases hx
theorem gk_getstatic (k : Nat) {q : String × String × String} {ix : Nat} {f : Value → Option (ρ × gk_H)} (hd : decode cc pc = .ok (.getstatic ix, 3)) (hq : gk_sf[k]? = some q) (hw : Cond.fieldLink y.cls ix q.1 q.2.1 q.2.2 ∈ gk_T)
    (kk : ∀ v, gk_P w d y cc nL ret et (f v) (pc + 3) L (v :: st) h) : gk_P w d y cc nL ret et (f (gk_gs h k)) pc L st h := by
  intro rr h' hx
  obtain ⟨k1, k2, k3⟩ := kk _ rr h' hx
  refine ⟨k1, k2, fun p l e R s m args below meth cd H locs cells slots ls D ad B n0 u0 mc ms Qc XC C S r1 r2 r3 r4 E => ?_⟩
  obtain ⟨s1, s2, s3, s4, s5, s6, s7, s8, s9⟩ := S
  obtain ⟨cf, kf, fi, fd, a, cell, h1, h2, h3, h4, h5, h6, h7, h8⟩ := s1.2.2.2.2.2.2.2.2.2.2.1 k q hq
  refine W.gets C.1 C.2.1 C.2.2.2.2.1 (C.2.2.2.2.2.1 _ hw) h1 h2 h3 h4 h5 (fun e => by rw [e] at h6; cases h6) h7 rfl hd ?_
  refine k3 p l e R s m args below meth cd H locs cells slots ls D ad B n0 u0 mc ms Qc XC C ⟨s1, s2, s3, s4, s5, gk_cn ?_ s6, s7, s8, s9⟩ r1 r2 r3 r4 E
  have hk5 : k < 5 := (List.getElem?_eq_some_iff.mp hq).1
  exact s1.2.2.2.2.1 0 k (by rw [s1.2.2.2.2.2.2.2.1]; decide) (by rw [s1.2.2.2.2.2.2.2.2.1]; exact hk5)
theorem gk_gsI (k : Nat) {q : String × String × String} {ix : Nat} {f : Int32 → Option (ρ × gk_H)} (hd : decode cc pc = .ok (.getstatic ix, 3)) (hq : gk_sf[k]? = some q) (hw : Cond.fieldLink y.cls ix q.1 q.2.1 q.2.2 ∈ gk_T)
    (kk : ∀ v, gk_P w d y cc nL ret et (f v) (pc + 3) L (.int v :: st) h) : gk_P w d y cc nL ret et ((gk_asI (gk_gs h k)).bind f) pc L st h := by
  refine gk_getstatic (f := fun v => (gk_asI v).bind f) k hd hq hw fun v => ?_
  cases v with
  | int v => exact kk v
  | _ => exact gk_none
theorem gk_gsR (k : Nat) {q : String × String × String} {ix : Nat} {f : Option Nat → Option (ρ × gk_H)} (hd : decode cc pc = .ok (.getstatic ix, 3)) (hq : gk_sf[k]? = some q) (hw : Cond.fieldLink y.cls ix q.1 q.2.1 q.2.2 ∈ gk_T)
    (kk : ∀ v, gk_P w d y cc nL ret et (f v) (pc + 3) L (va_rf v :: st) h) : gk_P w d y cc nL ret et ((gk_asR (gk_gs h k)).bind f) pc L st h := by
  refine gk_getstatic (f := fun v => (gk_asR v).bind f) k hd hq hw fun v => ?_
  cases v with
  | null => exact kk none
  | ref a => exact kk (some a)
  | _ => exact gk_none
theorem gk_ldcS {ix : Nat} (tx : String) (a : Nat) (hd : decode cc pc = .ok (.ldc ix, 2)) (hr : (y.cls, ix, tx, a) ∈ gk_sr) (k : gk_P w d y cc nL ret et x (pc + 2) L (va_rf (some a) :: st) h) : gk_P w d y cc nL ret et x pc L st h := by
  intro r h' hx
  obtain ⟨k1, k2, k3⟩ := k r h' hx
  refine ⟨k1, k2, fun p l e R s m args below meth cd H locs cells slots ls D ad B n0 u0 mc ms Qc XC C S r1 r2 r3 r4 E => ?_⟩
  obtain ⟨s1, s2, s3, s4, s5, s6, s7, s8, s9⟩ := S
  have ha : a < gk_c := by
    have hall : ∀ r ∈ gk_sr, r.2.2.2 < gk_c := by decide +kernel
    exact hall _ hr
  refine va_ldcS C.1 C.2.1 C.2.2.2.2.1 (s2.2.2.2.2.1 _ hr) hd ?_
  exact k3 p l e R s m args below meth cd H locs cells slots ls D ad B n0 u0 mc ms Qc XC C ⟨s1, s2, s3, s4, s5, gk_cn (Nat.lt_of_lt_of_le ha s1.2.2.2.2.2.2.1) s6, s7, s8, s9⟩ r1 r2 r3 r4 E
end GKN
