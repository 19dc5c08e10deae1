/-! ROWS: fields and arrays -/
def gk_asI : Value → Option Int32
  | .int v => some v
  | _ => none
def gk_asL : Value → Option Int64
  | .long v => some v
  | _ => none
def gk_asD : Value → Option UInt64
  | .double v => some v
  | _ => none
def gk_asR : Value → Option (Option Nat)
  | .null => some none
  | .ref a => some (some a)
  | _ => none
/-- field k of the object r of class c -/
def gk_get (h : gk_H) (r : Option Nat) (c k : Nat) : Option Value := match r with
  | none => none
  | some i => if (h.2.2 i).1 = 10 + c then some ((h.2.2 i).2.2 k) else none
def gk_fit (ty : FieldType) (v : Value) : Bool := decide (narrow ty v = v) && fits ty v
def gk_set (h : gk_H) (r : Option Nat) (c k : Nat) (v : Value) : Option gk_H := match r with
  | none => none
  | some i => if (h.2.2 i).1 = 10 + c ∧ gk_c ≤ i ∧ gk_fit (gk_ty c k) v = true then some (gk_upd h i ((h.2.2 i).1, (h.2.2 i).2.1, gk_put (h.2.2 i).2.2 k v)) else none
def gk_inb (n : Nat) (i : Int32) : Bool := decide (¬ (i < 0 ∨ n ≤ i.toNatClampNeg))
def gk_ald (h : gk_H) (r : Option Nat) (t : Nat) (i : Int32) : Option Value := match r with
  | none => none
  | some a => if (h.2.2 a).1 = t ∧ gk_inb (h.2.2 a).2.1 i = true then some ((h.2.2 a).2.2 i.toNatClampNeg) else none
def gk_tyt (t : Nat) : FieldType := (gk_el t).getD .int
/-- what an array's place may take: a value of the kind; where objects stand, null or a Value -/
def gk_may (h : gk_H) (t : Nat) (v : Value) : Bool := match t, v with
  | 7, .null => true
  | 7, .ref b => decide ((h.2.2 b).1 = 12)
  | 7, _ => false
  | _, _ => true
def gk_ast (h : gk_H) (r : Option Nat) (t : Nat) (i : Int32) (v : Value) : Option gk_H := match r with
  | none => none
  | some a => if (h.2.2 a).1 = t ∧ gk_inb (h.2.2 a).2.1 i = true ∧ gk_c ≤ a ∧ gk_may h t v = true then some (gk_upd h a ((h.2.2 a).1, (h.2.2 a).2.1, gk_put (h.2.2 a).2.2 i.toNatClampNeg (narrow (gk_tyt t) v))) else none
def gk_len (h : gk_H) (r : Option Nat) : Option Int32 := match r with
  | none => none
  | some a => if 1 ≤ (h.2.2 a).1 ∧ (h.2.2 a).1 ≤ 7 then some (Int32.ofNat (h.2.2 a).2.1) else none
theorem gk_at_obj {D : va_G} {ad : Nat → Nat} {B : Nat} {h : gk_H} {s : State} {H : Heap} (hr : gk_R D ad B h s H) {i c : Nat} (ht : (h.2.2 i).1 = 10 + c) : ∃ cell : Cell, H[ad i]? = some cell ∧ gk_obj D ad i cell (h.2.2 i) := by
  have hl : gk_lv (h.2.2 i).1 = true := by
    rw [ht]
    simp [gk_lv]
    omega
  have := hr.1 i hl
  unfold gk_at at this
  have he : gk_el (h.2.2 i).1 = none := by
    rw [ht]
    unfold gk_el
    split <;> first | rfl | omega
  rw [he] at this
  exact this
theorem gk_at_siz {D : va_G} {ad : Nat → Nat} {B : Nat} {h : gk_H} {s : State} {H : Heap} (hr : gk_R D ad B h s H) {i t : Nat} {ty : FieldType} (ht : (h.2.2 i).1 = t) (hty : gk_el t = some ty) : ∃ cell : Cell, H[ad i]? = some cell ∧ gk_arr ad s cell ty (h.2.2 i) ∧ (gk_c ≤ i → cell.slots.size = (h.2.2 i).2.1 ∧ (ty = .byte → s.vm.findClass "[B" = some cell.cls)) := by
  subst ht
  have hl : gk_lv (h.2.2 i).1 = true := by
    unfold gk_el at hty
    split at hty <;> first | rfl | (rename_i e; rw [e]; rfl) | cases hty
  have := hr.1 i hl
  unfold gk_at at this
  rw [hty] at this
  exact this
theorem gk_at_arr {D : va_G} {ad : Nat → Nat} {B : Nat} {h : gk_H} {s : State} {H : Heap} (hr : gk_R D ad B h s H) {i t : Nat} {ty : FieldType} (ht : (h.2.2 i).1 = t) (hty : gk_el t = some ty) : ∃ cell : Cell, H[ad i]? = some cell ∧ gk_arr ad s cell ty (h.2.2 i) := by
  subst ht
  have hl : gk_lv (h.2.2 i).1 = true := by
    unfold gk_el at hty
    split at hty <;> first | rfl | (rename_i e; rw [e]; rfl) | cases hty
  have := hr.1 i hl
  unfold gk_at at this
  rw [hty] at this
  obtain ⟨cell, h1, h2, -⟩ := this
  exact ⟨cell, h1, h2⟩
/-- a field as the machine finds it -/
theorem gk_fld {D : va_G} {ad : Nat → Nat} {B : Nat} {h : gk_H} {s : State} {H : Heap} {args : Array Value} (hr : gk_R D ad B h s H) (hts : ∀ w ∈ gk_T, w.before args s = true) {i c k : Nat} {r : vw_C} (ht : (h.2.2 i).1 = 10 + c) (hc : gk_cl[c]? = some r) (hk : k < r.2.2) :
    ∃ cf kf fi f cell, s.fieldFound? (r.2.1 k).1 (r.2.1 k).2.1 (r.2.1 k).2.2.1 = some (cf, kf, fi, f) ∧ f.isStatic = false ∧ H[ad i]? = some cell ∧ cell.vm ≠ .unknown ∧ f.slot = D.2 c k ∧ cell.slots[f.slot]? = some (gk_v ad ((h.2.2 i).2.2 k)) ∧ (h.2.2 i).2.1 = r.2.2 ∧ cell.cls = D.1 c ∧ (gk_c ≤ i → cell.vm = .none) ∧ ∀ j, j < r.2.2 → cell.slots[D.2 c j]? = some (gk_v ad ((h.2.2 i).2.2 j)) := by
  obtain ⟨cell, q1, -, r', q2, q3, q4, q5, q6, q7, q8⟩ := gk_at_obj hr ht
  rw [ht, Nat.add_sub_cancel_left] at q2 q4 q8
  cases q2.symm.trans hc
  obtain ⟨hS, hfc, kC, hkC, hkind⟩ := hr.2.2.2.2.2.2.2.2.2.1 c r hc
  obtain ⟨cf, kf, fi, f, hi, hsl⟩ := hS k hk
  refine ⟨cf, kf, fi, f, cell, hi, (u_facts hfc hkC (u_lays hts (gk_laysAll hc) hk) hi).1, q1, q6, hsl, ?_, q3, q4, q7, q8⟩
  rw [hsl]
  exact q8 k hk
section GKH
variable {ρ : Type} {w : ρ → gk_U} {d : Nat} {y : MethodName} {cc : ByteArray} {nL : Nat} {ret : Option FieldType} {et : List ExceptionTableEntry} {x : Option (ρ × gk_H)} {pc : Nat} {L : List (Nat × Value)} {st : List Value} {h : gk_H}
theorem gk_getfield (c k : Nat) {r : vw_C} {ix : Nat} {a : Option Nat} {f : Value → Option (ρ × gk_H)} (hd : decode cc pc = .ok (.getfield ix, 3)) (hc : gk_cl[c]? = some r) (hk : k < r.2.2) (hw : Cond.fieldLink y.cls ix (r.2.1 k).1 (r.2.1 k).2.1 (r.2.1 k).2.2.1 ∈ gk_T)
    (kk : ∀ v, gk_P w d y cc nL ret et (f v) (pc + 3) L (v :: st) h) : gk_P w d y cc nL ret et ((gk_get h a c k).bind f) pc L (va_rf a :: st) h := by
  intro rr h' hx
  cases a with
  | none => cases hx
  | some i =>
    unfold gk_get at hx
    by_cases ht : (h.2.2 i).1 = 10 + c
    · simp only [if_pos ht, Option.bind_some] at hx
      obtain ⟨k1, k2, k3⟩ := kk _ rr h' hx
      refine ⟨k1, k2, fun p l e R s m args below meth cd H locs cells slots ls D ad B n0 u0 mc ms Qc XC C S r1 r2 r3 r4 E => ?_⟩
      obtain ⟨s1, s2, s3, s4, s5, s6, s7, s8, s9⟩ := S
      obtain ⟨cf, kf, fi, fd, cell, g1, g2, g3, g4, g5, g6, g7, -⟩ := gk_fld s1 C.2.2.2.2.2.1 ht hc hk
      refine W.getf C.1 C.2.1 C.2.2.2.2.1 (C.2.2.2.2.2.1 _ hw) g1 g2 g3 g4 g6 rfl rfl hd ?_
      refine k3 p l e R s m args below meth cd H locs cells slots ls D ad B n0 u0 mc ms Qc XC C ⟨s1, s2, s3, s4, s5, gk_cn ?_ (gk_dr1 s6), s7, s8, s9⟩ r1 r2 r3 r4 E
      exact s1.2.2.2.2.1 i k (by rw [ht]; omega) (by rw [g7]; exact hk)
    · simp only [if_neg ht, Option.bind_none] at hx
      cases hx
theorem gk_getI (c k : Nat) {r : vw_C} {ix : Nat} {a : Option Nat} {f : Int32 → Option (ρ × gk_H)} (hd : decode cc pc = .ok (.getfield ix, 3)) (hc : gk_cl[c]? = some r) (hk : k < r.2.2) (hw : Cond.fieldLink y.cls ix (r.2.1 k).1 (r.2.1 k).2.1 (r.2.1 k).2.2.1 ∈ gk_T)
    (kk : ∀ v, gk_P w d y cc nL ret et (f v) (pc + 3) L (.int v :: st) h) : gk_P w d y cc nL ret et (((gk_get h a c k).bind gk_asI).bind f) pc L (va_rf a :: st) h := by
  rw [Option.bind_assoc]
  refine gk_getfield c k hd hc hk hw fun v => ?_
  cases v with
  | int v => exact kk v
  | _ => exact gk_none
theorem gk_getD (c k : Nat) {r : vw_C} {ix : Nat} {a : Option Nat} {f : UInt64 → Option (ρ × gk_H)} (hd : decode cc pc = .ok (.getfield ix, 3)) (hc : gk_cl[c]? = some r) (hk : k < r.2.2) (hw : Cond.fieldLink y.cls ix (r.2.1 k).1 (r.2.1 k).2.1 (r.2.1 k).2.2.1 ∈ gk_T)
    (kk : ∀ v, gk_P w d y cc nL ret et (f v) (pc + 3) L (.double v :: st) h) : gk_P w d y cc nL ret et (((gk_get h a c k).bind gk_asD).bind f) pc L (va_rf a :: st) h := by
  rw [Option.bind_assoc]
  refine gk_getfield c k hd hc hk hw fun v => ?_
  cases v with
  | double v => exact kk v
  | _ => exact gk_none
theorem gk_getR (c k : Nat) {r : vw_C} {ix : Nat} {a : Option Nat} {f : Option Nat → Option (ρ × gk_H)} (hd : decode cc pc = .ok (.getfield ix, 3)) (hc : gk_cl[c]? = some r) (hk : k < r.2.2) (hw : Cond.fieldLink y.cls ix (r.2.1 k).1 (r.2.1 k).2.1 (r.2.1 k).2.2.1 ∈ gk_T)
    (kk : ∀ v, gk_P w d y cc nL ret et (f v) (pc + 3) L (va_rf v :: st) h) : gk_P w d y cc nL ret et (((gk_get h a c k).bind gk_asR).bind f) pc L (va_rf a :: st) h := by
  rw [Option.bind_assoc]
  refine gk_getfield c k hd hc hk hw fun v => ?_
  cases v with
  | null => exact kk none
  | ref a => exact kk (some a)
  | _ => exact gk_none
/-- an array's place is read: the row of the kit for the array's kind is given -/
theorem gk_load (t : Nat) {ty : FieldType} {ins : Instr} {a : Option Nat} {i : Int32} {f : Value → Option (ρ × gk_H)} (hty : gk_el t = some ty)
    (hW : ∀ (p : Program) (l : Launch) (e : Env) (R : Room) (s : State) (m : MethodId) (args : Array Value) (below : List Frame) (meth : Method) (cd : Code) (H : Heap) (locs : List Loc) (cells slots : Nat) (Q : State → Prop) (ls : Array Slot) (b : Nat) (cell : Cell) (v : Value) (rest : List Value), p.tables.exec = Jvm.exec → cd.code = cc → H[b]? = some cell → s.isArrayOf cell ty → cell.vm ≠ .unknown → ¬ (i < 0 ∨ cell.slots.size ≤ i.toNatClampNeg) → cell.slots[i.toNatClampNeg]? = some v →
      W p l e R s m args below meth cd H locs cells slots Q (F0 m (pc + 1) ls (v :: rest)) → W p l e R s m args below meth cd H locs cells slots Q (F0 m pc ls (.int i :: .ref b :: rest)))
    (kk : ∀ v, gk_P w d y cc nL ret et (f v) (pc + 1) L (v :: st) h) : gk_P w d y cc nL ret et ((gk_ald h a t i).bind f) pc L (.int i :: va_rf a :: st) h := by
  intro rr h' hx
  cases a with
  | none => cases hx
  | some j =>
    unfold gk_ald at hx
    by_cases ht : (h.2.2 j).1 = t ∧ gk_inb (h.2.2 j).2.1 i = true
    · simp only [if_pos ht, Option.bind_some] at hx
      obtain ⟨k1, k2, k3⟩ := kk _ rr h' hx
      refine ⟨k1, k2, fun p l e R s m args below meth cd H locs cells slots ls D ad B n0 u0 mc ms Qc XC C S r1 r2 r3 r4 E => ?_⟩
      obtain ⟨s1, s2, s3, s4, s5, s6, s7, s8, s9⟩ := S
      obtain ⟨cell, g1, g2, g3, g4, g5, g6, -⟩ := gk_at_arr s1 ht.1 hty
      have hb : ¬ (i < 0 ∨ (h.2.2 j).2.1 ≤ i.toNatClampNeg) := of_decide_eq_true ht.2
      have hlt : i.toNatClampNeg < (h.2.2 j).2.1 := Nat.not_le.mp fun q => hb (Or.inr q)
      refine hW p l e R s m args below meth cd H locs cells slots _ ls (ad j) cell (gk_v ad ((h.2.2 j).2.2 i.toNatClampNeg)) (st.map (gk_v ad)) C.1 C.2.1 g1 g2 g3 ?_ (g6 _ hlt) ?_
      · rintro (q | q)
        · exact hb (Or.inl q)
        · omega
      · refine k3 p l e R s m args below meth cd H locs cells slots ls D ad B n0 u0 mc ms Qc XC C ⟨s1, s2, s3, s4, s5, gk_cn ?_ (gk_dr1 (gk_dr1 s6)), s7, s8, s9⟩ r1 r2 r3 r4 E
        refine s1.2.2.2.2.1 j _ ?_ hlt
        rw [ht.1]
        intro q
        rw [q] at hty
        cases hty
    · simp only [if_neg ht, Option.bind_none] at hx
      cases hx
theorem gk_iald {a : Option Nat} {i : Int32} {f : Int32 → Option (ρ × gk_H)} (hd : decode cc pc = .ok (.iaload, 1)) (kk : ∀ v, gk_P w d y cc nL ret et (f v) (pc + 1) L (.int v :: st) h) : gk_P w d y cc nL ret et (((gk_ald h a 1 i).bind gk_asI).bind f) pc L (.int i :: va_rf a :: st) h := by
  rw [Option.bind_assoc]
  refine gk_load 1 (ins := .iaload) rfl (fun p l e R s m args below meth cd H locs cells slots Q ls b cell v rest hx hb g1 g2 g3 g4 g5 k => W.iald hx hb g1 g2 g3 g4 g5 rfl rfl hd k) fun v => ?_
  cases v with
  | int v => exact kk v
  | _ => exact gk_none
theorem gk_lald {a : Option Nat} {i : Int32} {f : Int64 → Option (ρ × gk_H)} (hd : decode cc pc = .ok (.laload, 1)) (kk : ∀ v, gk_P w d y cc nL ret et (f v) (pc + 1) L (.long v :: st) h) : gk_P w d y cc nL ret et (((gk_ald h a 2 i).bind gk_asL).bind f) pc L (.int i :: va_rf a :: st) h := by
  rw [Option.bind_assoc]
  refine gk_load 2 (ins := .laload) rfl (fun p l e R s m args below meth cd H locs cells slots Q ls b cell v rest hx hb g1 g2 g3 g4 g5 k => W.lald hx hb g1 g2 g3 g4 g5 rfl rfl hd k) fun v => ?_
  cases v with
  | long v => exact kk v
  | _ => exact gk_none
theorem gk_bald {a : Option Nat} {i : Int32} {f : Int32 → Option (ρ × gk_H)} (hd : decode cc pc = .ok (.baload, 1)) (kk : ∀ v, gk_P w d y cc nL ret et (f v) (pc + 1) L (.int v :: st) h) : gk_P w d y cc nL ret et (((gk_ald h a 3 i).bind gk_asI).bind f) pc L (.int i :: va_rf a :: st) h := by
  rw [Option.bind_assoc]
  refine gk_load 3 (ins := .baload) rfl (fun p l e R s m args below meth cd H locs cells slots Q ls b cell v rest hx hb g1 g2 g3 g4 g5 k => W.bald hx hb g1 g2 g3 g4 g5 rfl rfl hd k) fun v => ?_
  cases v with
  | int v => exact kk v
  | _ => exact gk_none
theorem gk_zald {a : Option Nat} {i : Int32} {f : Int32 → Option (ρ × gk_H)} (hd : decode cc pc = .ok (.baload, 1)) (kk : ∀ v, gk_P w d y cc nL ret et (f v) (pc + 1) L (.int v :: st) h) : gk_P w d y cc nL ret et (((gk_ald h a 4 i).bind gk_asI).bind f) pc L (.int i :: va_rf a :: st) h := by
  rw [Option.bind_assoc]
  refine gk_load 4 (ins := .baload) rfl (fun p l e R s m args below meth cd H locs cells slots Q ls b cell v rest hx hb g1 g2 g3 g4 g5 k => W.zald hx hb g1 g2 g3 g4 g5 rfl rfl hd k) fun v => ?_
  cases v with
  | int v => exact kk v
  | _ => exact gk_none
theorem gk_cald {a : Option Nat} {i : Int32} {f : Int32 → Option (ρ × gk_H)} (hd : decode cc pc = .ok (.caload, 1)) (kk : ∀ v, gk_P w d y cc nL ret et (f v) (pc + 1) L (.int v :: st) h) : gk_P w d y cc nL ret et (((gk_ald h a 5 i).bind gk_asI).bind f) pc L (.int i :: va_rf a :: st) h := by
  rw [Option.bind_assoc]
  refine gk_load 5 (ins := .caload) rfl (fun p l e R s m args below meth cd H locs cells slots Q ls b cell v rest hx hb g1 g2 g3 g4 g5 k => W.cald hx hb g1 g2 g3 g4 g5 rfl rfl hd k) fun v => ?_
  cases v with
  | int v => exact kk v
  | _ => exact gk_none
theorem gk_dald {a : Option Nat} {i : Int32} {f : UInt64 → Option (ρ × gk_H)} (hd : decode cc pc = .ok (.daload, 1)) (kk : ∀ v, gk_P w d y cc nL ret et (f v) (pc + 1) L (.double v :: st) h) : gk_P w d y cc nL ret et (((gk_ald h a 6 i).bind gk_asD).bind f) pc L (.int i :: va_rf a :: st) h := by
  rw [Option.bind_assoc]
  refine gk_load 6 (ins := .daload) rfl (fun p l e R s m args below meth cd H locs cells slots Q ls b cell v rest hx hb g1 g2 g3 g4 g5 k => W.dald hx hb g1 g2 g3 g4 g5 rfl rfl hd k) fun v => ?_
  cases v with
  | double v => exact kk v
  | _ => exact gk_none
theorem gk_aald {a : Option Nat} {i : Int32} {f : Option Nat → Option (ρ × gk_H)} (hd : decode cc pc = .ok (.aaload, 1)) (kk : ∀ v, gk_P w d y cc nL ret et (f v) (pc + 1) L (va_rf v :: st) h) : gk_P w d y cc nL ret et (((gk_ald h a 7 i).bind gk_asR).bind f) pc L (.int i :: va_rf a :: st) h := by
  rw [Option.bind_assoc]
  refine gk_load 7 (ins := .aaload) rfl (fun p l e R s m args below meth cd H locs cells slots Q ls b cell v rest hx hb g1 g2 g3 g4 g5 k => W.aald hx hb g1 g2 rfl g3 g4 g5 rfl rfl hd k) fun v => ?_
  cases v with
  | null => exact kk none
  | ref a => exact kk (some a)
  | _ => exact gk_none
theorem gk_alen {a : Option Nat} {f : Int32 → Option (ρ × gk_H)} (hd : decode cc pc = .ok (.arraylength, 1)) (kk : ∀ v, gk_P w d y cc nL ret et (f v) (pc + 1) L (.int v :: st) h) : gk_P w d y cc nL ret et ((gk_len h a).bind f) pc L (va_rf a :: st) h := by
  intro rr h' hx
  cases a with
  | none => cases hx
  | some j =>
    unfold gk_len at hx
    by_cases ht : 1 ≤ (h.2.2 j).1 ∧ (h.2.2 j).1 ≤ 7
    · simp only [if_pos ht, Option.bind_some] at hx
      obtain ⟨k1, k2, k3⟩ := kk _ rr h' hx
      refine ⟨k1, k2, fun p l e R s m args below meth cd H locs cells slots ls D ad B n0 u0 mc ms Qc XC C S r1 r2 r3 r4 E => ?_⟩
      obtain ⟨s1, s2, s3, s4, s5, s6, s7, s8, s9⟩ := S
      obtain ⟨ty, hty⟩ : ∃ ty, gk_el (h.2.2 j).1 = some ty := by
        obtain ⟨q1, q2⟩ := ht
        generalize (h.2.2 j).1 = t at q1 q2
        match t, q1, q2 with
        | 1, _, _ => exact ⟨_, rfl⟩
        | 2, _, _ => exact ⟨_, rfl⟩
        | 3, _, _ => exact ⟨_, rfl⟩
        | 4, _, _ => exact ⟨_, rfl⟩
        | 5, _, _ => exact ⟨_, rfl⟩
        | 6, _, _ => exact ⟨_, rfl⟩
        | 7, _, _ => exact ⟨_, rfl⟩
      obtain ⟨cell, g1, g2, g3, g4, g5, g6, -⟩ := gk_at_arr s1 rfl hty
      refine W.alen (n := Int32.ofNat (h.2.2 j).2.1) C.1 C.2.1 g1 g2 g5 rfl rfl hd ?_
      exact k3 p l e R s m args below meth cd H locs cells slots ls D ad B n0 u0 mc ms Qc XC C ⟨s1, s2, s3, s4, s5, gk_cn trivial (gk_dr1 s6), s7, s8, s9⟩ r1 r2 r3 r4 E
    · simp only [if_neg ht, Option.bind_none] at hx
      cases hx
end GKH
