/-! ROWS: a call whose throws are caught, in the functions' words; a static call of a method with a table -/
section GKCC
variable {ρ : Type} {w : ρ → gk_U} {d : Nat} {y : MethodName} {cc : ByteArray} {nL : Nat} {ret : Option FieldType} {et : List ExceptionTableEntry} {pc : Nat} {L : List (Nat × Value)} {st sk : List Value} {h : gk_H}
variable {α : Type} {w' : Sum α String → gk_U} {gv : α → Option Value} {x' : Option (Sum α String × gk_H)} {f : α → gk_H → Option (ρ × gk_H)} {y' : MethodName} {cc' : ByteArray} {nL' : Nat} {ret' : Option FieldType} {as : List Value}
theorem gk_callVC1 (c : Nat) {r0 : vw_C} {a : Option Nat} {ix n : Nat} (hd : decode cc pc = .ok (.invokevirtual ix, 3)) (hc : gk_cl[c]? = some r0) (hcy : y'.cls = r0.1) (hsk : as.reverse ++ va_rf a :: st = sk) (hn : as.length = n) (h8 : (st.map fun v => v.category).sum ≤ 8)
    (hl : Cond.methodLink y.cls ix y' ∈ gk_T) (hst : Cond.instanceMethod y' ∈ gk_T) (hsel : Cond.selects y'.cls y' y' ∈ gk_T) (hini : Cond.initialized y'.cls ∈ gk_T) (hcode : Cond.code y' cc' nL' ret' ∈ gk_T)
    (hy : y'.cls ≠ "java/lang/invoke/MethodHandle" ∧ y'.cls ≠ "java/lang/invoke/VarHandle" ∧ (parseMethodDescriptor y'.desc).map (fun d => d.parameters.length) = some n) (hnl : nL' ≤ 45)
    (hM : ∀ r h1, x' = some (r, h1) → gk_M d y' cc' nL' ret' (va_rf a :: as) h (w' r) h1) (hwl : ∀ v, w' (.inl v) = .inl (gv v)) (hwr : ∀ E, w' (.inr E) = .inr E)
    {E1 : String} {a1 b1 p1 t1 : Nat} {g1 : gk_H → Option (ρ × gk_H)} (het : et = [⟨a1, b1, p1, t1⟩]) (hc1 : covers ⟨a1, b1, p1, t1⟩ pc = true) (ht1 : t1 ≠ 0) (hl1 : Cond.classLink y.cls t1 E1 ∈ gk_T) (hx1 : (E1, E1) ∈ gk_exC)
    (kk : ∀ r h1, gk_P w (d + 1) y cc nL ret et (f r h1) (pc + 3) L ((gv r).toList ++ st) h1) (k1 : ∀ h1 : gk_H, gk_P w (d + 1) y cc nL ret et (g1 h1) p1 L [va_rf (some h1.1)] (gk_cgt h1)) :
    gk_P w (d + 1) y cc nL ret et (gk_ch h a c x' f fun e h1 => if e = E1 then g1 h1 else none) pc L sk h := by
  refine gk_invVC (w' := w') (f := fun q => match q.1 with
    | .inl v => f v q.2
    | .inr E => if E = E1 then g1 q.2 else none) c hd hc hcy hsk hn h8 hl hst hsel hini hcode hy hnl hM (fun r h1 v hv => ?_) (fun r h1 E hE => ?_)
  · cases r with
    | inl r =>
      rw [hwl] at hv
      cases hv
      exact kk r h1
    | inr E =>
      rw [hwr] at hv
      cases hv
  · cases r with
    | inl r =>
      rw [hwl] at hE
      cases hE
    | inr E' =>
      rw [hwr] at hE
      cases hE
      by_cases e1 : E = E1
      · refine Or.inr ⟨[], _, [], E1, het, (fun u hu => nomatch hu), hc1, ht1, hl1, by rw [e1]; exact hx1, ?_⟩
        show gk_P w (d + 1) y cc nL ret et (if E = E1 then g1 h1 else none) p1 L _ _
        rw [if_pos e1]
        exact k1 h1
      · exact Or.inl (if_neg e1)
theorem gk_callVC2 (c : Nat) {r0 : vw_C} {a : Option Nat} {ix n : Nat} (hd : decode cc pc = .ok (.invokevirtual ix, 3)) (hc : gk_cl[c]? = some r0) (hcy : y'.cls = r0.1) (hsk : as.reverse ++ va_rf a :: st = sk) (hn : as.length = n) (h8 : (st.map fun v => v.category).sum ≤ 8)
    (hl : Cond.methodLink y.cls ix y' ∈ gk_T) (hst : Cond.instanceMethod y' ∈ gk_T) (hsel : Cond.selects y'.cls y' y' ∈ gk_T) (hini : Cond.initialized y'.cls ∈ gk_T) (hcode : Cond.code y' cc' nL' ret' ∈ gk_T)
    (hy : y'.cls ≠ "java/lang/invoke/MethodHandle" ∧ y'.cls ≠ "java/lang/invoke/VarHandle" ∧ (parseMethodDescriptor y'.desc).map (fun d => d.parameters.length) = some n) (hnl : nL' ≤ 45)
    (hM : ∀ r h1, x' = some (r, h1) → gk_M d y' cc' nL' ret' (va_rf a :: as) h (w' r) h1) (hwl : ∀ v, w' (.inl v) = .inl (gv v)) (hwr : ∀ E, w' (.inr E) = .inr E)
    {E1 E2 : String} {a1 b1 p1 t1 a2 b2 p2 t2 : Nat} {g1 g2 : gk_H → Option (ρ × gk_H)} (het : et = [⟨a1, b1, p1, t1⟩, ⟨a2, b2, p2, t2⟩]) (hc1 : covers ⟨a1, b1, p1, t1⟩ pc = true) (ht1 : t1 ≠ 0) (hl1 : Cond.classLink y.cls t1 E1 ∈ gk_T) (hx1 : (E1, E1) ∈ gk_exC)
    (hc2 : covers ⟨a2, b2, p2, t2⟩ pc = true) (ht2 : t2 ≠ 0) (hl2 : Cond.classLink y.cls t2 E2 ∈ gk_T) (hx2 : (E2, E2) ∈ gk_exC) (hx12 : (E2, E1) ∈ gk_exN)
    (kk : ∀ r h1, gk_P w (d + 1) y cc nL ret et (f r h1) (pc + 3) L ((gv r).toList ++ st) h1) (k1 : ∀ h1 : gk_H, gk_P w (d + 1) y cc nL ret et (g1 h1) p1 L [va_rf (some h1.1)] (gk_cgt h1)) (k2 : ∀ h1 : gk_H, gk_P w (d + 1) y cc nL ret et (g2 h1) p2 L [va_rf (some h1.1)] (gk_cgt h1)) :
    gk_P w (d + 1) y cc nL ret et (gk_ch h a c x' f fun e h1 => if e = E1 then g1 h1 else if e = E2 then g2 h1 else none) pc L sk h := by
  refine gk_invVC (w' := w') (f := fun q => match q.1 with
    | .inl v => f v q.2
    | .inr E => if E = E1 then g1 q.2 else if E = E2 then g2 q.2 else none) c hd hc hcy hsk hn h8 hl hst hsel hini hcode hy hnl hM (fun r h1 v hv => ?_) (fun r h1 E hE => ?_)
  · cases r with
    | inl r =>
      rw [hwl] at hv
      cases hv
      exact kk r h1
    | inr E =>
      rw [hwr] at hv
      cases hv
  · cases r with
    | inl r =>
      rw [hwl] at hE
      cases hE
    | inr E' =>
      rw [hwr] at hE
      cases hE
      by_cases e1 : E = E1
      · refine Or.inr ⟨[], _, _, E1, het, (fun u hu => nomatch hu), hc1, ht1, hl1, by rw [e1]; exact hx1, ?_⟩
        show gk_P w (d + 1) y cc nL ret et (if E = E1 then g1 h1 else if E = E2 then g2 h1 else none) p1 L _ _
        rw [if_pos e1]
        exact k1 h1
      · by_cases e2 : E = E2
        · refine Or.inr ⟨[⟨a1, b1, p1, t1⟩], _, [], E2, het, (fun u hu => ?_), hc2, ht2, hl2, by rw [e2]; exact hx2, ?_⟩
          · rw [List.mem_singleton.mp hu]
            exact Or.inr ⟨ht1, E1, hl1, by rw [e2]; exact hx12⟩
          · show gk_P w (d + 1) y cc nL ret et (if E = E1 then g1 h1 else if E = E2 then g2 h1 else none) p2 L _ _
            rw [if_neg e1, if_pos e2]
            exact k2 h1
        · refine Or.inl ?_
          show (if E = E1 then g1 h1 else if E = E2 then g2 h1 else none) = none
          rw [if_neg e1, if_neg e2]
end GKCC
section GKCD
variable {ρ : Type} {w : ρ → gk_U} {d : Nat} {y : MethodName} {cc : ByteArray} {nL : Nat} {ret : Option FieldType} {et : List ExceptionTableEntry} {pc : Nat} {L : List (Nat × Value)} {st sk : List Value} {h : gk_H}
variable {ρ' : Type} {w' : ρ' → Option Value} {x' : Option (ρ' × gk_H)} {f : ρ' → gk_H → Option (ρ × gk_H)} {y' : MethodName} {cc' : ByteArray} {nL' : Nat} {ret' : Option FieldType} {as : List Value}
theorem gk_callSH {hh : List (Nat × Nat × Nat × Nat)} {ix n : Nat} (hd : decode cc pc = .ok (.invokestatic ix, 3)) (hsk : as.reverse ++ st = sk) (hn : as.length = n) (h8 : (st.map fun v => v.category).sum ≤ 8)
    (hl : Cond.methodLink y.cls ix y' ∈ gk_T) (hst : Cond.static y' ∈ gk_T) (hini : Cond.initialized y'.cls ∈ gk_T) (hcode : Cond.codeWith y' cc' nL' ret' hh ∈ gk_T)
    (hy : y'.cls ≠ "java/lang/invoke/MethodHandle" ∧ y'.cls ≠ "java/lang/invoke/VarHandle" ∧ (parseMethodDescriptor y'.desc).map (fun d => d.parameters.length) = some n) (hnl : nL' ≤ 45)
    (hM : ∀ r h1, x' = some (r, h1) → gk_MH d y' cc' nL' ret' hh as h (w' r) h1) (kk : ∀ r h1, gk_P w (d + 1) y cc nL ret et (f r h1) (pc + 3) L ((w' r).toList ++ st) h1) : gk_P w (d + 1) y cc nL ret et (gk_ca x' f) pc L sk h :=
  gk_invSH (f := fun q => f q.1 q.2) hd hsk hn h8 hl hst hini hcode hy hnl hM kk
end GKCD
