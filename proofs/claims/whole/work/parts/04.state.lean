/-- what the tables say beside their good words: who may be cast, who declares, links between nest mates -/
def gk_exC : List (String × String) := [("java/lang/IllegalStateException", "java/lang/IllegalStateException"), ("java/lang/IllegalArgumentException", "java/lang/IllegalArgumentException"), ("java/lang/IndexOutOfBoundsException", "java/lang/IndexOutOfBoundsException"), ("[B", "java/lang/Cloneable")]
def gk_exN : List (String × String) := [("java/lang/IllegalStateException", "java/lang/IllegalArgumentException"), ("java/lang/IllegalStateException", "java/lang/IndexOutOfBoundsException"), ("java/lang/IllegalArgumentException", "java/lang/IllegalStateException"), ("java/lang/IllegalArgumentException", "java/lang/IndexOutOfBoundsException"), ("java/lang/IndexOutOfBoundsException", "java/lang/IllegalArgumentException"), ("java/lang/IndexOutOfBoundsException", "java/lang/IllegalStateException")]
def gk_exD : List MethodName := [⟨"java/lang/RuntimeException", "<init>", "()V"⟩, ⟨"java/lang/RuntimeException", "<init>", "(Ljava/lang/String;)V"⟩, ⟨"java/lang/Exception", "<init>", "()V"⟩, ⟨"java/lang/Exception", "<init>", "(Ljava/lang/String;)V"⟩, ⟨"java/lang/Throwable", "<init>", "()V"⟩, ⟨"java/lang/Throwable", "<init>", "(Ljava/lang/String;)V"⟩]
def gk_exM : List (String × Nat × MethodName × String) := [("ValueAlgebra", 24, ⟨"ValueAlgebra$Arguments", "<init>", "()V"⟩, "ValueAlgebra"), ("ValueAlgebra$Arguments", 41, ⟨"ValueAlgebra$Likeness", "<init>", "()V"⟩, "ValueAlgebra")]
/-- the texts that are used, and their numbers; the texts of what is thrown -/
def gk_sr : List (String × Nat × String × Nat) := [("ValueAlgebra$Value", 36, "", 4), ("ValueAlgebra$Arguments", 110, "TRUE", 6), ("ValueAlgebra$Arguments", 112, "FALSE", 8), ("ValueAlgebra$Arguments", 117, "", 10), ("java/lang/StringLatin1", 151, "", 12)]
def gk_ms : List (String × Nat × String) := [("ValueAlgebra", 135, "there is no room on the stack"), ("ValueAlgebra", 43, "a byte is no character 32 .. 126"), ("ValueAlgebra", 54, "a text has at most 255 characters"), ("ValueAlgebra", 85, "neither nothing, nor a truth, nor an error"), ("ValueAlgebra", 87, "an array has a row and a column at least"), ("ValueAlgebra", 89, "there are not so many values"), ("ValueAlgebra", 94, "an array has no array as a cell"), ("ValueAlgebra", 106, "there is no such operator"), ("ValueAlgebra", 131, "there is no such function"), ("ValueAlgebra", 133, "the function does not take so many arguments"), ("ValueAlgebra", 155, "there is no value"), ("ValueAlgebra", 194, "there is no value so far below"), ("ValueAlgebra", 166, "only kind, rows and columns are told"), ("ValueAlgebra", 197, "there is no such cell"), ("ValueAlgebra", 182, "only kind and measure are told")]
/-- the static fields that are read -/
def gk_sf : List (String × String × String) := [("java/lang/String", "COMPACT_STRINGS", "Z"), ("jdk/internal/util/Preconditions", "SIOOBE_FORMATTER", "Ljava/util/function/BiFunction;"), ("ValueAlgebra", "FEWEST", "[I"), ("ValueAlgebra", "MOST", "[I"), ("ValueAlgebra$Days", "DAYS_BEFORE", "[I")]
/-- what hangs on the tables alone -/
def gk_N (ad : Nat → Nat) (U : State) : Prop :=
  ((∀ q ∈ gk_exC, va_Nw (.castable q.1 q.2) U) ∧ ∀ q ∈ gk_exN, va_Nc q.1 q.2 U) ∧ (∀ q ∈ gk_exD, va_Nw (.declares q) U) ∧ (∀ q ∈ gk_exM, va_Nw (.methodLinkNest q.1 q.2.1 q.2.2.1 q.2.2.2) U) ∧ va_AO "ValueAlgebra$Value" U ∧
  (∀ r ∈ gk_sr, vk_R r.1 r.2.1 r.2.2.1 (ad r.2.2.2) U) ∧ (∀ r ∈ gk_ms, ∃ a, vk_R r.1 r.2.1 r.2.2 a U)
theorem gk_N.warm {ad : Nat → Nat} {s U : State} (hW : s.WarmedH U.vm) (h : gk_N ad s) : gk_N ad U := by
  obtain ⟨h1, h2, h3, h4, h5, h6⟩ := h
  refine ⟨⟨fun q hq => va_Nw.warmC hW (h1.1 q hq), fun q hq => va_Nc.moved hW.alike (h1.2 q hq)⟩, fun q hq => va_Nw.warmD hW (h2 q hq), fun q hq => va_Nw.warmM hW (h3 q hq), va_AO.moved hW.alike h4, fun r hr => vk_R.warm hW (h5 r hr), fun r hr => ?_⟩
  obtain ⟨a, ha⟩ := h6 r hr
  exact ⟨a, vk_R.warm hW ha⟩
theorem gk_N.agree {ad ad' : Nat → Nat} {s : State} (hA : ∀ i, i < gk_c → ad' i = ad i) (h : gk_N ad s) : gk_N ad' s := by
  obtain ⟨h1, h2, h3, h4, h5, h6⟩ := h
  refine ⟨h1, h2, h3, h4, fun r hr => ?_, h6⟩
  have hr2 : ∀ r ∈ gk_sr, r.2.2.2 < gk_c := by decide +kernel
  rw [hA _ (hr2 r hr)]
  exact h5 r hr
/-- a real array's cell, and an object's -/
def gk_arr (ad : Nat → Nat) (s : State) (cell : Cell) (ty : FieldType) (o : gk_O) : Prop :=
  s.isArrayOf cell ty ∧ cell.vm ≠ .unknown ∧ o.2.1 ≤ cell.slots.size ∧ cell.slots.size.toInt32 = Int32.ofNat o.2.1 ∧ (∀ j, j < o.2.1 → cell.slots[j]? = some (gk_v ad (o.2.2 j))) ∧
  ∀ C, ty = .object C → ∃ (kA : Class) (comp : ClassId), s.vm.classes[cell.cls]? = some kA ∧ kA.kind = .array comp (.object C) ∧ s.vm.findClass C = some comp
def gk_obj (D : va_G) (ad : Nat → Nat) (i : Nat) (cell : Cell) (o : gk_O) : Prop :=
  10 ≤ o.1 ∧ ∃ r : vw_C, gk_cl[o.1 - 10]? = some r ∧ o.2.1 = r.2.2 ∧ cell.cls = D.1 (o.1 - 10) ∧ cell.vm.isStatics = false ∧ cell.vm ≠ .unknown ∧ (gk_c ≤ i → cell.vm = .none) ∧ ∀ k, k < r.2.2 → cell.slots[D.2 (o.1 - 10) k]? = some (gk_v ad (o.2.2 k))
def gk_at (D : va_G) (ad : Nat → Nat) (s : State) (H : Heap) (i : Nat) (o : gk_O) : Prop :=
  match gk_el o.1 with
  | some ty => ∃ cell : Cell, H[ad i]? = some cell ∧ gk_arr ad s cell ty o ∧ (gk_c ≤ i → cell.slots.size = o.2.1 ∧ (ty = .byte → s.vm.findClass "[B" = some cell.cls))
  | none => ∃ cell : Cell, H[ad i]? = some cell ∧ gk_obj D ad i cell o
/-- a thing that is there: neither none nor the statics -/
def gk_lv (t : Nat) : Bool := t != 0 && t != 9
/-- the classes as the tables have them -/
def gk_K (D : va_G) (s : State) : Prop := ∀ (c : Nat) (q : vw_C), gk_cl[c]? = some q → u_Kn s q.1 q.2.1 q.2.2 (D.1 c) (D.2 c)
/-- the statics of the tables, and Throwable's two -/
def gk_Z (ad : Nat → Nat) (B : Nat) (f : Nat → Value) (s : State) (H : Heap) : Prop :=
  (∀ (k : Nat) (q : String × String × String), gk_sf[k]? = some q → va_Z q.1 q.2.1 q.2.2 (gk_v ad (f k)) (fun a => B ≤ a) s H) ∧ vx_Zq Jvm.Bundle.tN "UNASSIGNED_STACK" Jvm.Bundle.steD (fun a => B ≤ a) s H ∧ vx_Zq Jvm.Bundle.tN "SUPPRESSED_SENTINEL" Jvm.Bundle.listD (fun a => B ≤ a) s H
/-- THE WORLD: what is there lies where ad says, apart; what is new lies from B on; refs point below the next number -/
def gk_R (D : va_G) (ad : Nat → Nat) (B : Nat) (h : gk_H) (s : State) (H : Heap) : Prop :=
  (∀ i, gk_lv (h.2.2 i).1 = true → gk_at D ad s H i (h.2.2 i)) ∧
  (∀ i j, gk_c ≤ i → gk_c ≤ j → gk_lv (h.2.2 i).1 = true → gk_lv (h.2.2 j).1 = true → ad i = ad j → i = j) ∧
  (∀ i, h.1 ≤ i → (h.2.2 i).1 = 0) ∧
  (∀ i, gk_lv (h.2.2 i).1 = true → (B ≤ ad i ↔ gk_c ≤ i)) ∧
  (∀ i k, (h.2.2 i).1 ≠ 0 → k < (h.2.2 i).2.1 → gk_ok h.1 ((h.2.2 i).2.2 k)) ∧
  B ≤ H.size ∧ gk_c ≤ h.1 ∧ (h.2.2 0).1 = 9 ∧ (h.2.2 0).2.1 = 5 ∧ gk_K D s ∧ gk_Z ad B (h.2.2 0).2.2 s H
theorem gk_v_ok {n : Nat} {ad ad' : Nat → Nat} (hA : ∀ i, i < n → ad' i = ad i) {v : Value} (hv : gk_ok n v) : gk_v ad' v = gk_v ad v := by
  cases v <;> simp_all [gk_v, gk_ok]
theorem gk_ok.mono {n m : Nat} (h : n ≤ m) {v : Value} (hv : gk_ok n v) : gk_ok m v := by
  cases v with
  | ref i => exact Nat.lt_of_lt_of_le hv h
  | _ => trivial
theorem gk_v_cat (ad : Nat → Nat) (v : Value) : (gk_v ad v).category = v.category := by cases v <;> rfl
theorem gk_arr.moved {ad : Nat → Nat} {u U : State} {cell : Cell} {ty : FieldType} {o : gk_O} (hvm : u.vm.Alike U.vm) (h : gk_arr ad u cell ty o) : gk_arr ad U cell ty o := by
  obtain ⟨h1, h2, h3, h4, h5, h6⟩ := h
  refine ⟨State.isArrayOf_alike hvm h1, h2, h3, h4, h5, fun C hC => ?_⟩
  obtain ⟨kA, comp, q1, q2, q3⟩ := h6 C hC
  obtain ⟨k', hk', he⟩ := hvm.2.2 _ _ q1
  exact ⟨k', comp, hk', by rw [he]; exact q2, by rw [hvm.findClass]; exact q3⟩
theorem gk_at.moved {D : va_G} {ad : Nat → Nat} {u U : State} {H : Heap} {i : Nat} {o : gk_O} (hvm : u.vm.Alike U.vm) (h : gk_at D ad u H i o) : gk_at D ad U H i o := by
  unfold gk_at at h ⊢
  split
  · rename_i ty e
    rw [e] at h
    obtain ⟨cell, h1, h2⟩ := h
    exact ⟨cell, h1, h2.1.moved hvm, fun hi => ⟨(h2.2 hi).1, fun e => by rw [hvm.findClass]; exact (h2.2 hi).2 e⟩⟩
  · rename_i e
    rw [e] at h
    exact h
theorem gk_at.kept {D : va_G} {ad : Nat → Nat} {s : State} {H H1 : Heap} {i : Nat} {o : gk_O} (h : gk_at D ad s H i o) (hq : H1[ad i]? = H[ad i]?) : gk_at D ad s H1 i o := by
  unfold gk_at at h ⊢
  rw [hq]
  exact h
theorem gk_at.lt {D : va_G} {ad : Nat → Nat} {s : State} {H : Heap} {i : Nat} {o : gk_O} (h : gk_at D ad s H i o) : ad i < H.size := by
  unfold gk_at at h
  split at h <;> obtain ⟨cell, h1, -⟩ := h <;> exact (Array.getElem?_eq_some_iff.mp h1).1
theorem gk_K.moved {D : va_G} {u U : State} (hvm : u.vm.Alike U.vm) (h : gk_K D u) : gk_K D U := fun c q hq => u_Kn_moved hvm (h c q hq)
theorem gk_Z.moved {ad : Nat → Nat} {B : Nat} {f : Nat → Value} {u U : State} {H : Heap} (hvm : u.vm.Alike U.vm) (h : gk_Z ad B f u H) : gk_Z ad B f U H :=
  ⟨fun k q hq => va_Z.moved hvm (h.1 k q hq), vx_Zq.moved hvm h.2.1, vx_Zq.moved hvm h.2.2⟩
theorem gk_Z.kept {ad : Nat → Nat} {B : Nat} {f : Nat → Value} {s : State} {H H1 : Heap} (h : gk_Z ad B f s H) (hq : ∀ a : Nat, a < H.size → a < B → H1[a]? = H[a]?) : gk_Z ad B f s H1 :=
  ⟨fun k q hk => va_Z.kept (h.1 k q hk) (fun a h1 h2 => hq a h1 (Nat.not_le.mp h2)), vx_Zq.kept h.2.1 (fun a h1 h2 => hq a h1 (Nat.not_le.mp h2)), vx_Zq.kept h.2.2 (fun a h1 h2 => hq a h1 (Nat.not_le.mp h2))⟩
theorem gk_R.moved {D : va_G} {ad : Nat → Nat} {B : Nat} {h : gk_H} {u U : State} {H : Heap} (hvm : u.vm.Alike U.vm) (hr : gk_R D ad B h u H) : gk_R D ad B h U H := by
  obtain ⟨h1, h2, h3, h4, h5, h6, h7, h8, h9, h10, h11⟩ := hr
  exact ⟨fun i hi => (h1 i hi).moved hvm, h2, h3, h4, h5, h6, h7, h8, h9, h10.moved hvm, h11.moved hvm⟩
/-- nothing that is there has changed -/
theorem gk_R.kept {D : va_G} {ad : Nat → Nat} {B : Nat} {h : gk_H} {s : State} {H H1 : Heap} (hr : gk_R D ad B h s H) (hs : H.size ≤ H1.size) (hq : ∀ a : Nat, a < H.size → H1[a]? = H[a]?) : gk_R D ad B h s H1 := by
  obtain ⟨h1, h2, h3, h4, h5, h6, h7, h8, h9, h10, h11⟩ := hr
  exact ⟨fun i hi => (h1 i hi).kept (hq _ (h1 i hi).lt), h2, h3, h4, h5, Nat.le_trans h6 hs, h7, h8, h9, h10, h11.kept (fun a q _ => hq a q)⟩
