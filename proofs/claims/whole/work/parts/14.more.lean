/-! WHAT THE DECOMPILED FUNCTIONS ARE WRITTEN WITH -/
def gk_F : Nat := 1000000
def gw_I (r : Int32) : gk_U := .inl (some (.int r))
def gw_J (r : Int64) : gk_U := .inl (some (.long r))
def gw_D (r : UInt64) : gk_U := .inl (some (.double r))
def gw_R (r : Option Nat) : gk_U := .inl (some (va_rf r))
def gw_V (_ : Unit) : gk_U := .inl none
def gv_I (r : Int32) : Option Value := some (.int r)
def gv_J (r : Int64) : Option Value := some (.long r)
def gv_D (r : UInt64) : Option Value := some (.double r)
def gv_R (r : Option Nat) : Option Value := some (va_rf r)
def gv_V (_ : Unit) : Option Value := none
def gx_I (r : Sum Int32 String) : gk_U := match r with
  | .inl v => .inl (some (.int v))
  | .inr E => .inr E
def gx_D (r : Sum UInt64 String) : gk_U := match r with
  | .inl v => .inl (some (.double v))
  | .inr E => .inr E
def gx_R (r : Sum (Option Nat) String) : gk_U := match r with
  | .inl v => .inl (some (va_rf v))
  | .inr E => .inr E
def gx_V (r : Sum Unit String) : gk_U := match r with
  | .inl _ => .inl none
  | .inr E => .inr E
def gk_nn (r : UInt64) : Bool := decide (r &&& 0x7fffffffffffffff ≤ 0x7ff0000000000000)
theorem gk_nn_of {r : UInt64} (h : gk_nn r = true) : vf_n64 r := by
  unfold gk_nn at h
  unfold vf_n64
  exact of_decide_eq_true h
/-- a double that must be a number or endless -/
def gk_dop {β : Type} (v : UInt64) (f : UInt64 → Option β) : Option β := if gk_nn v = true then f v else none
def gk_ca {α β : Type} (x : Option (α × gk_H)) (f : α → gk_H → Option β) : Option β := x.bind fun q => f q.1 q.2
def gk_cv {α β : Type} (h : gk_H) (a : Option Nat) (c : Nat) (x : Option (α × gk_H)) (f : α → gk_H → Option β) : Option β := (gk_rcv h a c).bind fun _ => gk_ca x f
/-- a call that may throw: what is thrown goes on -/
def gk_cx {α β : Type} (h : gk_H) (a : Option Nat) (c : Nat) (x : Option (Sum α String × gk_H)) (f : α → gk_H → Option (β × gk_H)) (inj : String → β) : Option (β × gk_H) := (gk_rcv h a c).bind fun _ => x.bind fun q => match q.1 with
  | .inl r => f r q.2
  | .inr E => some (inj E, q.2)
theorem gk_cat_rf (r : Option Nat) : (va_rf r).category = 1 := by cases r <;> rfl
theorem gk_catI (v : Int32) : (Value.int v).category = 1 := rfl
theorem gk_catJ (v : Int64) : (Value.long v).category = 2 := rfl
theorem gk_catD (v : UInt64) : (Value.double v).category = 2 := rfl
theorem gk_neT {x k : Int32} {a : Int} (h : ¬ x = k) (hk : k.toInt = a) : x.toInt ≠ a := lv_neT h hk
section GKX
variable {ρ : Type} {w : ρ → gk_U} {d : Nat} {y : MethodName} {cc : ByteArray} {nL : Nat} {ret : Option FieldType} {et : List ExceptionTableEntry} {x : Option (ρ × gk_H)} {pc : Nat} {L : List (Nat × Value)} {st sk : List Value} {h : gk_H}
theorem gk_topI {v : Int32} {f : Int32 → Option (ρ × gk_H)} (k : ∀ u, gk_P w d y cc nL ret et (f u) pc L (.int u :: st) h) : gk_P w d y cc nL ret et (gk_let v f) pc L (.int v :: st) h := k v
theorem gk_topJ {v : Int64} {f : Int64 → Option (ρ × gk_H)} (k : ∀ u, gk_P w d y cc nL ret et (f u) pc L (.long u :: st) h) : gk_P w d y cc nL ret et (gk_let v f) pc L (.long v :: st) h := k v
theorem gk_topD {v : UInt64} {f : UInt64 → Option (ρ × gk_H)} (k : ∀ u, gk_P w d y cc nL ret et (f u) pc L (.double u :: st) h) : gk_P w d y cc nL ret et (gk_let v f) pc L (.double v :: st) h := k v
theorem gk_topR {v : Option Nat} {f : Option Nat → Option (ρ × gk_H)} (k : ∀ u, gk_P w d y cc nL ret et (f u) pc L (va_rf u :: st) h) : gk_P w d y cc nL ret et (gk_let v f) pc L (va_rf v :: st) h := k v
theorem gk_iincN (k0 : Nat) {q : Nat} {i : Int} {v : Int32} (c : Int32) {L' : Int32 → List (Nat × Value)} {f : Int32 → Option (ρ × gk_H)} (hd : decode cc pc = .ok (.iinc q i, 3)) (hl : L[k0]? = some (q, .int v)) (hv : Int32.ofInt i = c) (hn : q < nL) (hL' : ∀ u, gk_s1 q (.int u) L = L' u) (k : ∀ u, gk_P w d y cc nL ret et (f u) (pc + 3) (L' u) st h) : gk_P w d y cc nL ret et (gk_let (v + c) f) pc L st h :=
  gk_iinc k0 (v + c) hd hl (by rw [hv]) hn (hL' _) (k _)
theorem gk_daddN {a b : UInt64} {f : UInt64 → Option (ρ × gk_H)} (hd : decode cc pc = .ok (.dadd, 1)) (k : ∀ u, gk_P w d y cc nL ret et (f u) (pc + 1) L (.double u :: st) h) : gk_P w d y cc nL ret et (gk_dop (FP.dadd a b) f) pc L (.double b :: .double a :: st) h := by
  unfold gk_dop
  exact gk_ite (fun hz => gk_dadd (gk_nn_of hz) hd (k _)) (fun _ => gk_none)
theorem gk_dsubN {a b : UInt64} {f : UInt64 → Option (ρ × gk_H)} (hd : decode cc pc = .ok (.dsub, 1)) (k : ∀ u, gk_P w d y cc nL ret et (f u) (pc + 1) L (.double u :: st) h) : gk_P w d y cc nL ret et (gk_dop (FP.dsub a b) f) pc L (.double b :: .double a :: st) h := by
  unfold gk_dop
  exact gk_ite (fun hz => gk_dsub (gk_nn_of hz) hd (k _)) (fun _ => gk_none)
theorem gk_dmulN {a b : UInt64} {f : UInt64 → Option (ρ × gk_H)} (hd : decode cc pc = .ok (.dmul, 1)) (k : ∀ u, gk_P w d y cc nL ret et (f u) (pc + 1) L (.double u :: st) h) : gk_P w d y cc nL ret et (gk_dop (FP.dmul a b) f) pc L (.double b :: .double a :: st) h := by
  unfold gk_dop
  exact gk_ite (fun hz => gk_dmul (gk_nn_of hz) hd (k _)) (fun _ => gk_none)
theorem gk_ddivN {a b : UInt64} {f : UInt64 → Option (ρ × gk_H)} (hd : decode cc pc = .ok (.ddiv, 1)) (k : ∀ u, gk_P w d y cc nL ret et (f u) (pc + 1) L (.double u :: st) h) : gk_P w d y cc nL ret et (gk_dop (FP.ddiv a b) f) pc L (.double b :: .double a :: st) h := by
  unfold gk_dop
  exact gk_ite (fun hz => gk_ddiv (gk_nn_of hz) hd (k _)) (fun _ => gk_none)
variable {ρ' : Type} {w' : ρ' → Option Value} {x' : Option (ρ' × gk_H)} {f : ρ' → gk_H → Option (ρ × gk_H)} {y' : MethodName} {cc' : ByteArray} {nL' : Nat} {ret' : Option FieldType} {as : List Value}
theorem gk_callS {ix n : Nat} (hd : decode cc pc = .ok (.invokestatic ix, 3)) (hsk : as.reverse ++ st = sk) (hn : as.length = n) (h8 : (st.map fun v => v.category).sum ≤ 8)
    (hl : Cond.methodLink y.cls ix y' ∈ gk_T) (hst : Cond.static y' ∈ gk_T) (hini : Cond.initialized y'.cls ∈ gk_T) (hcode : Cond.code y' cc' nL' ret' ∈ gk_T)
    (hy : y'.cls ≠ "java/lang/invoke/MethodHandle" ∧ y'.cls ≠ "java/lang/invoke/VarHandle" ∧ (parseMethodDescriptor y'.desc).map (fun d => d.parameters.length) = some n) (hnl : nL' ≤ 45)
    (hM : ∀ r h1, x' = some (r, h1) → gk_M d y' cc' nL' ret' as h (.inl (w' r)) h1) (kk : ∀ r h1, gk_P w (d + 1) y cc nL ret et (f r h1) (pc + 3) L ((w' r).toList ++ st) h1) : gk_P w (d + 1) y cc nL ret et (gk_ca x' f) pc L sk h :=
  gk_invS (f := fun q => f q.1 q.2) hd hsk hn h8 hl hst hini hcode hy hnl hM kk
theorem gk_callV (c : Nat) {r0 : vw_C} {a : Option Nat} {ix n : Nat} (hd : decode cc pc = .ok (.invokevirtual ix, 3)) (hc : gk_cl[c]? = some r0) (hcy : y'.cls = r0.1) (hsk : as.reverse ++ va_rf a :: st = sk) (hn : as.length = n) (h8 : (st.map fun v => v.category).sum ≤ 8)
    (hl : Cond.methodLink y.cls ix y' ∈ gk_T) (hst : Cond.instanceMethod y' ∈ gk_T) (hsel : Cond.selects y'.cls y' y' ∈ gk_T) (hini : Cond.initialized y'.cls ∈ gk_T) (hcode : Cond.code y' cc' nL' ret' ∈ gk_T)
    (hy : y'.cls ≠ "java/lang/invoke/MethodHandle" ∧ y'.cls ≠ "java/lang/invoke/VarHandle" ∧ (parseMethodDescriptor y'.desc).map (fun d => d.parameters.length) = some n) (hnl : nL' ≤ 45)
    (hM : ∀ r h1, x' = some (r, h1) → gk_M d y' cc' nL' ret' (va_rf a :: as) h (.inl (w' r)) h1) (kk : ∀ r h1, gk_P w (d + 1) y cc nL ret et (f r h1) (pc + 3) L ((w' r).toList ++ st) h1) : gk_P w (d + 1) y cc nL ret et (gk_cv h a c x' f) pc L sk h :=
  gk_invV (f := fun q => f q.1 q.2) c hd hc hcy hsk hn h8 hl hst hsel hini hcode hy hnl hM kk
theorem gk_callU (c : Nat) {r0 : vw_C} {a : Option Nat} {ix n : Nat} (hd : decode cc pc = .ok (.invokevirtual ix, 3)) (hc : gk_cl[c]? = some r0) (hsk : as.reverse ++ va_rf a :: st = sk) (hn : as.length = n) (h8 : (st.map fun v => v.category).sum ≤ 8)
    (hl : Cond.methodLink y.cls ix y' ∈ gk_T) (hsm : Cond.sameMethod y'.cls y'.cls y'.name y'.desc ∈ gk_T) (hst : Cond.instanceMethod y' ∈ gk_T) (hsel : Cond.selects r0.1 y' y' ∈ gk_T) (hini : Cond.initialized y'.cls ∈ gk_T) (hcode : Cond.code y' cc' nL' ret' ∈ gk_T)
    (hy : y'.cls ≠ "java/lang/invoke/MethodHandle" ∧ y'.cls ≠ "java/lang/invoke/VarHandle" ∧ (parseMethodDescriptor y'.desc).map (fun d => d.parameters.length) = some n) (hnl : nL' ≤ 45)
    (hM : ∀ r h1, x' = some (r, h1) → gk_M d y' cc' nL' ret' (va_rf a :: as) h (.inl (w' r)) h1) (kk : ∀ r h1, gk_P w (d + 1) y cc nL ret et (f r h1) (pc + 3) L ((w' r).toList ++ st) h1) : gk_P w (d + 1) y cc nL ret et (gk_cv h a c x' f) pc L sk h :=
  gk_invU (f := fun q => f q.1 q.2) c hd hc hsk hn h8 hl hsm hst hsel hini hcode hy hnl hM kk
theorem gk_callSU (c : Nat) {r0 : vw_C} {a : Option Nat} {ix n : Nat} (hd : decode cc pc = .ok (.invokespecial ix, 3)) (hc : gk_cl[c]? = some r0) (hsk : as.reverse ++ va_rf a :: st = sk) (hn : as.length = n) (h8 : (st.map fun v => v.category).sum ≤ 8)
    (hl : Cond.methodLink y.cls ix y' ∈ gk_T) (hsm : Cond.sameMethod y'.cls y'.cls y'.name y'.desc ∈ gk_T) (hsup : Cond.superclass y.cls y'.cls ∈ gk_T) (hst : Cond.instanceMethod y' ∈ gk_T) (hini : Cond.initialized y'.cls ∈ gk_T) (hcode : Cond.code y' cc' nL' ret' ∈ gk_T)
    (hy : y'.name ≠ "<init>" ∧ (parseMethodDescriptor y'.desc).map (fun d => d.parameters.length) = some n) (hnl : nL' ≤ 45)
    (hM : ∀ r h1, x' = some (r, h1) → gk_M d y' cc' nL' ret' (va_rf a :: as) h (.inl (w' r)) h1) (kk : ∀ r h1, gk_P w (d + 1) y cc nL ret et (f r h1) (pc + 3) L ((w' r).toList ++ st) h1) : gk_P w (d + 1) y cc nL ret et (gk_cv h a c x' f) pc L sk h :=
  gk_invSU (f := fun q => f q.1 q.2) c hd hc hsk hn h8 hl hsm hsup hst hini hcode hy hnl hM kk
theorem gk_callI (c : Nat) {a : Option Nat} {ix n : Nat} (hd : decode cc pc = .ok (.invokespecial ix, 3)) (hsk : as.reverse ++ va_rf a :: st = sk) (hn : as.length = n) (h8 : (st.map fun v => v.category).sum ≤ 8)
    (hl : Cond.methodLink y.cls ix y' ∈ gk_T) (hst : Cond.instanceMethod y' ∈ gk_T) (hini : Cond.initialized y'.cls ∈ gk_T) (hcode : Cond.code y' cc' nL' none ∈ gk_T) (hnm : y'.name = "<init>")
    (hy : y'.cls ≠ "java/lang/invoke/MethodHandle" ∧ y'.cls ≠ "java/lang/invoke/VarHandle" ∧ (parseMethodDescriptor y'.desc).map (fun d => d.parameters.length) = some n) (hnl : nL' ≤ 45)
    (hM : ∀ r h1, x' = some (r, h1) → gk_M d y' cc' nL' none (va_rf a :: as) h (.inl (w' r)) h1) (kk : ∀ r h1, gk_P w (d + 1) y cc nL ret et (f r h1) (pc + 3) L ((w' r).toList ++ st) h1) : gk_P w (d + 1) y cc nL ret et (gk_cv h a c x' f) pc L sk h :=
  gk_invI (f := fun q => f q.1 q.2) c hd hsk hn h8 hl hst hini hcode hnm hy hnl hM kk
theorem gk_callIN (c : Nat) {a : Option Nat} {ix n : Nat} {host : String} (hd : decode cc pc = .ok (.invokespecial ix, 3)) (hsk : as.reverse ++ va_rf a :: st = sk) (hn : as.length = n) (h8 : (st.map fun v => v.category).sum ≤ 8)
    (hl : (y.cls, ix, y', host) ∈ gk_exM) (hst : Cond.instanceMethod y' ∈ gk_T) (hini : Cond.initialized y'.cls ∈ gk_T) (hcode : Cond.code y' cc' nL' none ∈ gk_T) (hnm : y'.name = "<init>")
    (hy : y'.cls ≠ "java/lang/invoke/MethodHandle" ∧ y'.cls ≠ "java/lang/invoke/VarHandle" ∧ (parseMethodDescriptor y'.desc).map (fun d => d.parameters.length) = some n) (hnl : nL' ≤ 45)
    (hM : ∀ r h1, x' = some (r, h1) → gk_M d y' cc' nL' none (va_rf a :: as) h (.inl (w' r)) h1) (kk : ∀ r h1, gk_P w (d + 1) y cc nL ret et (f r h1) (pc + 3) L ((w' r).toList ++ st) h1) : gk_P w (d + 1) y cc nL ret et (gk_cv h a c x' f) pc L sk h :=
  gk_invIN (f := fun q => f q.1 q.2) c hd hsk hn h8 hl hst hini hcode hnm hy hnl hM kk
theorem gk_callO (c : Nat) {r0 : vw_C} {a : Option Nat} {ix n m0 : Nat} {b0 : ByteArray} {r9 : Option FieldType} (z : MethodName) (hd : decode cc pc = .ok (.invokevirtual ix, 3)) (hc : gk_cl[c]? = some r0) (hsk : as.reverse ++ va_rf a :: st = sk) (hn : as.length = n) (h8 : (st.map fun v => v.category).sum ≤ 8)
    (hl : Cond.methodLink y.cls ix z ∈ gk_T) (hsm : Cond.sameMethod z.cls z.cls z.name z.desc ∈ gk_T) (hiz : Cond.instanceMethod z ∈ gk_T) (h0 : Cond.code z b0 m0 r9 ∈ gk_T) (hst : Cond.instanceMethod y' ∈ gk_T) (hsel : Cond.selects r0.1 z y' ∈ gk_T) (hini : Cond.initialized y'.cls ∈ gk_T) (hcode : Cond.code y' cc' nL' ret' ∈ gk_T)
    (hy : z.cls ≠ "java/lang/invoke/MethodHandle" ∧ z.cls ≠ "java/lang/invoke/VarHandle" ∧ (parseMethodDescriptor z.desc).map (fun d => d.parameters.length) = some n) (hnl : nL' ≤ 45)
    (hM : ∀ r h1, x' = some (r, h1) → gk_M d y' cc' nL' ret' (va_rf a :: as) h (.inl (w' r)) h1) (kk : ∀ r h1, gk_P w (d + 1) y cc nL ret et (f r h1) (pc + 3) L ((w' r).toList ++ st) h1) : gk_P w (d + 1) y cc nL ret et (gk_cv h a c x' f) pc L sk h :=
  gk_invO (f := fun q => f q.1 q.2) c z hd hc hsk hn h8 hl hsm hiz h0 hst hsel hini hcode hy hnl hM kk
theorem gk_callVXI (c : Nat) {r0 : vw_C} {a : Option Nat} {ix n : Nat} (hd : decode cc pc = .ok (.invokevirtual ix, 3)) (hc : gk_cl[c]? = some r0) (hcy : y'.cls = r0.1) (hsk : as.reverse ++ va_rf a :: st = sk) (hn : as.length = n) (h8 : (st.map fun v => v.category).sum ≤ 8)
    (hl : Cond.methodLink y.cls ix y' ∈ gk_T) (hst : Cond.instanceMethod y' ∈ gk_T) (hsel : Cond.selects y'.cls y' y' ∈ gk_T) (hini : Cond.initialized y'.cls ∈ gk_T) (hcode : Cond.code y' cc' nL' ret' ∈ gk_T)
    (hy : y'.cls ≠ "java/lang/invoke/MethodHandle" ∧ y'.cls ≠ "java/lang/invoke/VarHandle" ∧ (parseMethodDescriptor y'.desc).map (fun d => d.parameters.length) = some n) (hnl : nL' ≤ 45) {xx : Option (Sum Int32 String × gk_H)} {ff : Int32 → gk_H → Option (ρ × gk_H)} {inj : String → ρ}
    (hM : ∀ r h1, xx = some (r, h1) → gk_M d y' cc' nL' ret' (va_rf a :: as) h (gx_I r) h1) (hinj : ∀ E, w (inj E) = .inr E) (kk : ∀ r h1, gk_P w (d + 1) y cc nL ret [] (ff r h1) (pc + 3) L ((gv_I r).toList ++ st) h1) : gk_P w (d + 1) y cc nL ret [] (gk_cx h a c xx ff inj) pc L sk h := by
  unfold gk_cx
  refine gk_invVX (w' := gx_I) c hd hc hcy hsk hn h8 hl hst hsel hini hcode hy hnl hM (fun r h1 v hv => ?_) (fun r h1 E hE => ?_)
  · cases r with
    | inl r =>
      cases hv
      exact kk r h1
    | inr E => cases hv
  · cases r with
    | inl r => cases hE
    | inr E' =>
      cases hE
      exact ⟨_, rfl, hinj _⟩
theorem gk_callVXD (c : Nat) {r0 : vw_C} {a : Option Nat} {ix n : Nat} (hd : decode cc pc = .ok (.invokevirtual ix, 3)) (hc : gk_cl[c]? = some r0) (hcy : y'.cls = r0.1) (hsk : as.reverse ++ va_rf a :: st = sk) (hn : as.length = n) (h8 : (st.map fun v => v.category).sum ≤ 8)
    (hl : Cond.methodLink y.cls ix y' ∈ gk_T) (hst : Cond.instanceMethod y' ∈ gk_T) (hsel : Cond.selects y'.cls y' y' ∈ gk_T) (hini : Cond.initialized y'.cls ∈ gk_T) (hcode : Cond.code y' cc' nL' ret' ∈ gk_T)
    (hy : y'.cls ≠ "java/lang/invoke/MethodHandle" ∧ y'.cls ≠ "java/lang/invoke/VarHandle" ∧ (parseMethodDescriptor y'.desc).map (fun d => d.parameters.length) = some n) (hnl : nL' ≤ 45) {xx : Option (Sum UInt64 String × gk_H)} {ff : UInt64 → gk_H → Option (ρ × gk_H)} {inj : String → ρ}
    (hM : ∀ r h1, xx = some (r, h1) → gk_M d y' cc' nL' ret' (va_rf a :: as) h (gx_D r) h1) (hinj : ∀ E, w (inj E) = .inr E) (kk : ∀ r h1, gk_P w (d + 1) y cc nL ret [] (ff r h1) (pc + 3) L ((gv_D r).toList ++ st) h1) : gk_P w (d + 1) y cc nL ret [] (gk_cx h a c xx ff inj) pc L sk h := by
  unfold gk_cx
  refine gk_invVX (w' := gx_D) c hd hc hcy hsk hn h8 hl hst hsel hini hcode hy hnl hM (fun r h1 v hv => ?_) (fun r h1 E hE => ?_)
  · cases r with
    | inl r =>
      cases hv
      exact kk r h1
    | inr E => cases hv
  · cases r with
    | inl r => cases hE
    | inr E' =>
      cases hE
      exact ⟨_, rfl, hinj _⟩
theorem gk_callVXR (c : Nat) {r0 : vw_C} {a : Option Nat} {ix n : Nat} (hd : decode cc pc = .ok (.invokevirtual ix, 3)) (hc : gk_cl[c]? = some r0) (hcy : y'.cls = r0.1) (hsk : as.reverse ++ va_rf a :: st = sk) (hn : as.length = n) (h8 : (st.map fun v => v.category).sum ≤ 8)
    (hl : Cond.methodLink y.cls ix y' ∈ gk_T) (hst : Cond.instanceMethod y' ∈ gk_T) (hsel : Cond.selects y'.cls y' y' ∈ gk_T) (hini : Cond.initialized y'.cls ∈ gk_T) (hcode : Cond.code y' cc' nL' ret' ∈ gk_T)
    (hy : y'.cls ≠ "java/lang/invoke/MethodHandle" ∧ y'.cls ≠ "java/lang/invoke/VarHandle" ∧ (parseMethodDescriptor y'.desc).map (fun d => d.parameters.length) = some n) (hnl : nL' ≤ 45) {xx : Option (Sum (Option Nat) String × gk_H)} {ff : (Option Nat) → gk_H → Option (ρ × gk_H)} {inj : String → ρ}
    (hM : ∀ r h1, xx = some (r, h1) → gk_M d y' cc' nL' ret' (va_rf a :: as) h (gx_R r) h1) (hinj : ∀ E, w (inj E) = .inr E) (kk : ∀ r h1, gk_P w (d + 1) y cc nL ret [] (ff r h1) (pc + 3) L ((gv_R r).toList ++ st) h1) : gk_P w (d + 1) y cc nL ret [] (gk_cx h a c xx ff inj) pc L sk h := by
  unfold gk_cx
  refine gk_invVX (w' := gx_R) c hd hc hcy hsk hn h8 hl hst hsel hini hcode hy hnl hM (fun r h1 v hv => ?_) (fun r h1 E hE => ?_)
  · cases r with
    | inl r =>
      cases hv
      exact kk r h1
    | inr E => cases hv
  · cases r with
    | inl r => cases hE
    | inr E' =>
      cases hE
      exact ⟨_, rfl, hinj _⟩
theorem gk_callVXV (c : Nat) {r0 : vw_C} {a : Option Nat} {ix n : Nat} (hd : decode cc pc = .ok (.invokevirtual ix, 3)) (hc : gk_cl[c]? = some r0) (hcy : y'.cls = r0.1) (hsk : as.reverse ++ va_rf a :: st = sk) (hn : as.length = n) (h8 : (st.map fun v => v.category).sum ≤ 8)
    (hl : Cond.methodLink y.cls ix y' ∈ gk_T) (hst : Cond.instanceMethod y' ∈ gk_T) (hsel : Cond.selects y'.cls y' y' ∈ gk_T) (hini : Cond.initialized y'.cls ∈ gk_T) (hcode : Cond.code y' cc' nL' ret' ∈ gk_T)
    (hy : y'.cls ≠ "java/lang/invoke/MethodHandle" ∧ y'.cls ≠ "java/lang/invoke/VarHandle" ∧ (parseMethodDescriptor y'.desc).map (fun d => d.parameters.length) = some n) (hnl : nL' ≤ 45) {xx : Option (Sum Unit String × gk_H)} {ff : Unit → gk_H → Option (ρ × gk_H)} {inj : String → ρ}
    (hM : ∀ r h1, xx = some (r, h1) → gk_M d y' cc' nL' ret' (va_rf a :: as) h (gx_V r) h1) (hinj : ∀ E, w (inj E) = .inr E) (kk : ∀ r h1, gk_P w (d + 1) y cc nL ret [] (ff r h1) (pc + 3) L ((gv_V r).toList ++ st) h1) : gk_P w (d + 1) y cc nL ret [] (gk_cx h a c xx ff inj) pc L sk h := by
  unfold gk_cx
  refine gk_invVX (w' := gx_V) c hd hc hcy hsk hn h8 hl hst hsel hini hcode hy hnl hM (fun r h1 v hv => ?_) (fun r h1 E hE => ?_)
  · cases r with
    | inl r =>
      cases hv
      exact kk r h1
    | inr E => cases hv
  · cases r with
    | inl r => cases hE
    | inr E' =>
      cases hE
      exact ⟨_, rfl, hinj _⟩
end GKX
