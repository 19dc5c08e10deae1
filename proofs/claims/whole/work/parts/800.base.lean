/-! THE PURE PART. The overlay: what the law makes at its start lies at fixed numbers; its contents are a state gv_S over a heap h that holds the rest -/
/-- small ints as numbers -/
def gI (n : Nat) : Int32 := Int32.ofNat n
theorem gI_lit (n : Nat) : (OfNat.ofNat n : Int32) = gI n := rfl
theorem gI_0 : (0 : Int32) = gI 0 := rfl
theorem gI_1 : (1 : Int32) = gI 1 := rfl
theorem gI_of (n : Nat) : Int32.ofNat n = gI n := rfl
theorem gI_add (a b : Nat) : gI a + gI b = gI (a + b) := (Int32.ofNat_add a b).symm
theorem gI_mul (a b : Nat) : gI a * gI b = gI (a * b) := (Int32.ofNat_mul a b).symm
theorem gI_sub (a b : Nat) (h : b ≤ a) : gI a - gI b = gI (a - b) := (Int32.ofNat_sub a b h).symm
theorem gI_le (a b : Nat) (ha : a < 2147483648) (hb : b < 2147483648) : (gI a ≤ gI b) = (a ≤ b) := propext (Int32.ofNat_le_iff_le ha hb)
theorem gI_lt (a b : Nat) (ha : a < 2147483648) (hb : b < 2147483648) : (gI a < gI b) = (a < b) := propext (Int32.ofNat_lt_iff_lt ha hb)
theorem gI_toInt (a : Nat) (ha : a < 2147483648) : (gI a).toInt = (a : Int) := Int32.toInt_ofNat_of_lt ha
theorem gI_nat (a : Nat) (ha : a < 2147483648) : (gI a).toNatClampNeg = a := Int32.toNatClampNeg_ofNat_of_lt ha
theorem gI_eq (a b : Nat) (ha : a < 2147483648) (hb : b < 2147483648) : (gI a = gI b) = (a = b) := propext ⟨fun h => by rw [← gI_nat a ha, ← gI_nat b hb, h], fun h => by rw [h]⟩
theorem gI_ne0 (a : Nat) (ha : a < 2147483648) : (gI a = (0 : Int32)) = (a = 0) := gI_eq a 0 ha (by decide)
theorem ite_le {β : Sort _} (x y : β) (a b : Nat) (ha : a < 2147483648) (hb : b < 2147483648) : (if gI a ≤ gI b then x else y) = if a ≤ b then x else y := by
  by_cases e : a ≤ b
  · rw [if_pos e, if_pos (by rw [gI_le a b ha hb]; exact e)]
  · rw [if_neg e, if_neg (by rw [gI_le a b ha hb]; exact e)]
theorem ite_lt {β : Sort _} (x y : β) (a b : Nat) (ha : a < 2147483648) (hb : b < 2147483648) : (if gI a < gI b then x else y) = if a < b then x else y := by
  by_cases e : a < b
  · rw [if_pos e, if_pos (by rw [gI_lt a b ha hb]; exact e)]
  · rw [if_neg e, if_neg (by rw [gI_lt a b ha hb]; exact e)]
theorem ite_eq {β : Sort _} (x y : β) (a b : Nat) (ha : a < 2147483648) (hb : b < 2147483648) : (if gI a = gI b then x else y) = if a = b then x else y := by
  by_cases e : a = b
  · rw [if_pos e, if_pos (by rw [gI_eq a b ha hb]; exact e)]
  · rw [if_neg e, if_neg (by rw [gI_eq a b ha hb]; exact e)]
theorem gk_let_eq {α β : Type} (v : α) (f : α → β) : gk_let v f = f v := rfl
theorem gI_inb (n a : Nat) (h : a < n) (hn : n < 2147483648) : gk_inb n (gI a) = true := by
  unfold gk_inb
  rw [gI_nat a (Nat.lt_trans h hn)]
  have : ¬ (gI a < 0) := by
    rw [gI_0, gI_lt a 0 (Nat.lt_trans h hn) (by decide)]
    omega
  simp only [this, false_or, decide_eq_true_eq]
  omega
/-- which numbers the overlay has -/
def gv_fx (i : Nat) : Bool := Nat.ble 16 i && Nat.blt i 44 && !(i == 18) && !(i == 19) && !(i == 24) && !(i == 25)
/-- ints, doubles, refs by thing and place; the long -/
abbrev gv_S : Type := (Nat → Nat → Int32) × (Nat → Nat → UInt64) × (Nat → Nat → Option Nat) × Int64
def gv_tag : Nat → Nat
  | 16 => 15 | 17 => 7 | 20 => 14 | 21 => 7 | 22 => 7 | 23 => 6 | 26 => 13 | 27 => 1 | 28 => 5 | 29 => 4
  | 30 => 17 | 31 => 3 | 32 => 1 | 33 => 1 | 34 => 1 | 35 => 1 | 36 => 6 | 37 => 1 | 38 => 3 | 39 => 6 | 40 => 1 | 41 => 3 | 42 => 2 | 43 => 6
  | _ => 0
def gv_len : Nat → Nat
  | 16 => 4 | 17 => 16 | 20 => 9 | 21 => 8 | 22 => 8 | 23 => 128 | 26 => 4 | 27 => 255 | 28 => 255 | 29 => 256
  | 30 => 25 | 31 => 256 | 32 => 17 | 33 => 17 | 34 => 17 | 35 => 272 | 36 => 272 | 37 => 272 | 38 => 69632 | 39 => 128 | 40 => 9 | 41 => 2304 | 42 => 1 | 43 => 1
  | _ => 0
def gv_c16 (S : gv_S) : Nat → Value
  | 0 => .ref 17 | 1 => .int (S.1 16 1) | 2 => .ref 18 | 3 => .ref 20 | _ => va_rf none
def gv_c20 (S : gv_S) : Nat → Value
  | 0 => .ref 21 | 1 => .ref 22 | 2 => .int (S.1 20 2) | 3 => .int (S.1 20 3) | 4 => .ref 23 | 5 => .int (S.1 20 5) | 6 => .ref 24 | 7 => .ref 25 | 8 => .ref 26 | _ => va_rf none
def gv_c26 (S : gv_S) : Nat → Value
  | 0 => .ref 27 | 1 => .int (S.1 26 1) | 2 => .ref 28 | 3 => .ref 29 | _ => va_rf none
def gv_c30 (S : gv_S) : Nat → Value
  | 2 => .ref 31 | 4 => .ref 32 | 5 => .ref 33 | 6 => .ref 34 | 7 => .ref 35 | 8 => .ref 36 | 9 => .ref 37 | 10 => .ref 38 | 13 => .ref 39 | 14 => .ref 40 | 15 => .ref 41
  | 16 => .double (S.2.1 30 16) | 19 => .double (S.2.1 30 19) | k => .int (S.1 30 k)
def gv_ct (S : gv_S) (i k : Nat) : Value := match i with
  | 16 => gv_c16 S k | 20 => gv_c20 S k | 26 => gv_c26 S k | 30 => gv_c30 S k
  | 17 => va_rf (S.2.2.1 17 k) | 21 => va_rf (S.2.2.1 21 k) | 22 => va_rf (S.2.2.1 22 k)
  | 23 => .double (S.2.1 23 k) | 36 => .double (S.2.1 36 k) | 39 => .double (S.2.1 39 k) | 43 => .double (S.2.1 43 k)
  | 42 => .long (if k = 0 then S.2.2.2 else 0)
  | i => .int (S.1 i k)
/-- the heap with the overlay -/
def gv_ov (h : gk_H) (S : gv_S) : gk_H := (h.1, h.2.1, fun i => if gv_fx i = true then (gv_tag i, gv_len i, gv_ct S i) else h.2.2 i)
/-- writing -/
def gv_uI (S : gv_S) (i k : Nat) (v : Int32) : gv_S := (fun a b => if a = i ∧ b = k then v else S.1 a b, S.2)
def gv_uD (S : gv_S) (i k : Nat) (v : UInt64) : gv_S := (S.1, fun a b => if a = i ∧ b = k then v else S.2.1 a b, S.2.2)
def gv_uR (S : gv_S) (i k : Nat) (v : Option Nat) : gv_S := (S.1, S.2.1, fun a b => if a = i ∧ b = k then v else S.2.2.1 a b, S.2.2.2)
def gv_uL (S : gv_S) (v : Int64) : gv_S := (S.1, S.2.1, S.2.2.1, v)
theorem gv_at {h : gk_H} {S : gv_S} {i : Nat} (hf : gv_fx i = true) : (gv_ov h S).2.2 i = (gv_tag i, gv_len i, gv_ct S i) := if_pos hf
theorem gv_no {h : gk_H} {S : gv_S} {i : Nat} (hf : gv_fx i = false) : (gv_ov h S).2.2 i = h.2.2 i := if_neg (by rw [hf]; exact Bool.false_ne_true)
theorem gv_get {h : gk_H} {S : gv_S} {i c k : Nat} (hf : gv_fx i = true) (ht : gv_tag i = 10 + c) : gk_get (gv_ov h S) (some i) c k = some (gv_ct S i k) := by
  unfold gk_get
  simp only [gv_at hf, ht, if_true]
theorem gv_ald {h : gk_H} {S : gv_S} {i t : Nat} {x : Int32} (hf : gv_fx i = true) (ht : gv_tag i = t) (hx : gk_inb (gv_len i) x = true) : gk_ald (gv_ov h S) (some i) t x = some (gv_ct S i x.toNatClampNeg) := by
  unfold gk_ald
  simp only [gv_at hf, ht, hx, and_self, if_true]
theorem gv_ext {a b : gk_H} (h1 : a.1 = b.1) (h2 : a.2.1 = b.2.1) (h3 : ∀ i, a.2.2 i = b.2.2 i) : a = b := by
  obtain ⟨a1, a2, a3⟩ := a
  obtain ⟨b1, b2, b3⟩ := b
  simp only at h1 h2 h3
  subst h1 h2
  rw [funext h3]
theorem gv_upd {h : gk_H} {S S' : gv_S} {i : Nat} {g : Nat → Value} (hf : gv_fx i = true) (h1 : ∀ k, g k = gv_ct S' i k) (h2 : ∀ j k, j ≠ i → gv_ct S j k = gv_ct S' j k) : gk_upd (gv_ov h S) i (gv_tag i, gv_len i, g) = gv_ov h S' := by
  refine gv_ext rfl rfl fun j => ?_
  unfold gk_upd gv_ov
  simp only
  by_cases e : j = i
  · subst e
    rw [if_pos rfl, if_pos hf]
    exact congrArg _ (congrArg _ (funext h1))
  · rw [if_neg e]
    by_cases hj : gv_fx j = true
    · rw [if_pos hj, if_pos hj]
      exact congrArg _ (congrArg _ (funext fun k => h2 j k e))
    · rw [if_neg hj, if_neg hj]
theorem gv_set {h : gk_H} {S S' : gv_S} {i c k : Nat} {v : Value} (hf : gv_fx i = true) (ht : gv_tag i = 10 + c) (hv : gk_fit (gk_ty c k) v = true) (h1 : ∀ j, gk_put (gv_ct S i) k v j = gv_ct S' i j) (h2 : ∀ j k, j ≠ i → gv_ct S j k = gv_ct S' j k) : gk_set (gv_ov h S) (some i) c k v = some (gv_ov h S') := by
  unfold gk_set
  have h16 : gk_c ≤ i := by
    unfold gv_fx at hf
    simp only [Bool.and_eq_true] at hf
    exact Nat.le_of_ble_eq_true hf.1.1.1.1.1
  simp only [gv_at hf]
  rw [if_pos ⟨ht, h16, hv⟩, gv_upd hf h1 h2]
theorem gv_ast {h : gk_H} {S S' : gv_S} {i t : Nat} {x : Int32} {v : Value} (hf : gv_fx i = true) (ht : gv_tag i = t) (hx : gk_inb (gv_len i) x = true) (hm : gk_may (gv_ov h S) t v = true) (h1 : ∀ j, gk_put (gv_ct S i) x.toNatClampNeg (narrow (gk_tyt t) v) j = gv_ct S' i j) (h2 : ∀ j k, j ≠ i → gv_ct S j k = gv_ct S' j k) : gk_ast (gv_ov h S) (some i) t x v = some (gv_ov h S') := by
  unfold gk_ast
  have h16 : gk_c ≤ i := by
    unfold gv_fx at hf
    simp only [Bool.and_eq_true] at hf
    exact Nat.le_of_ble_eq_true hf.1.1.1.1.1
  simp only [gv_at hf]
  rw [if_pos ⟨ht, hx, h16, hm⟩, gv_upd hf h1 h2]
theorem gv_ctI {S : gv_S} {i k : Nat} {v : Int32} (j a : Nat) (hj : j ≠ i) : gv_ct S j a = gv_ct (gv_uI S i k v) j a := by
  have e : ∀ b, (gv_uI S i k v).1 j b = S.1 j b := fun b => if_neg fun q => hj q.1
  have e2 : (gv_uI S i k v).2 = S.2 := rfl
  unfold gv_ct
  split <;> first
    | simp only [gv_c16, gv_c20, gv_c26, gv_c30, e, e2]
    | (simp only [e, e2])
theorem gv_ctD {S : gv_S} {i k : Nat} {v : UInt64} (j a : Nat) (hj : j ≠ i) : gv_ct S j a = gv_ct (gv_uD S i k v) j a := by
  have e : ∀ b, (gv_uD S i k v).2.1 j b = S.2.1 j b := fun b => if_neg fun q => hj q.1
  have e1 : (gv_uD S i k v).1 = S.1 := rfl
  have e2 : (gv_uD S i k v).2.2 = S.2.2 := rfl
  unfold gv_ct
  split <;> first
    | simp only [gv_c16, gv_c20, gv_c26, gv_c30, e, e1, e2]
    | (simp only [e, e1, e2])
theorem gv_ctR {S : gv_S} {i k : Nat} {v : Option Nat} (j a : Nat) (hj : j ≠ i) : gv_ct S j a = gv_ct (gv_uR S i k v) j a := by
  have e : ∀ b, (gv_uR S i k v).2.2.1 j b = S.2.2.1 j b := fun b => if_neg fun q => hj q.1
  have e1 : (gv_uR S i k v).1 = S.1 := rfl
  have e3 : (gv_uR S i k v).2.1 = S.2.1 := rfl
  have e2 : (gv_uR S i k v).2.2.2 = S.2.2.2 := rfl
  unfold gv_ct
  split <;> first
    | simp only [gv_c16, gv_c20, gv_c26, gv_c30, e, e1, e2, e3]
    | (simp only [e, e1, e2, e3])
/-- what a byte, a char keeps -/
def gI_b (v : Int32) : Int32 := v.toInt8.toInt32
def gI_c (v : Int32) : Int32 := v.toUInt32.toUInt16.toUInt32.toInt32
