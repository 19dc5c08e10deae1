/-! what has changed -/
theorem gu_I1 (S : gv_S) (i k : Nat) (v : Int32) (a b : Nat) (h : ¬ (a = i ∧ b = k)) : (gv_uI S i k v).1 a b = S.1 a b := if_neg h
theorem gu_I2 (S : gv_S) (i k : Nat) (v : Int32) : (gv_uI S i k v).1 i k = v := if_pos ⟨rfl, rfl⟩
theorem gu_I3 (S : gv_S) (i k : Nat) (v : Int32) : (gv_uI S i k v).2.1 = S.2.1 := rfl
theorem gu_I4 (S : gv_S) (i k : Nat) (v : Int32) : (gv_uI S i k v).2.2 = S.2.2 := rfl
theorem gu_D1 (S : gv_S) (i k : Nat) (v : UInt64) (a b : Nat) (h : ¬ (a = i ∧ b = k)) : (gv_uD S i k v).2.1 a b = S.2.1 a b := if_neg h
theorem gu_D2 (S : gv_S) (i k : Nat) (v : UInt64) : (gv_uD S i k v).2.1 i k = v := if_pos ⟨rfl, rfl⟩
theorem gu_D3 (S : gv_S) (i k : Nat) (v : UInt64) : (gv_uD S i k v).1 = S.1 := rfl
theorem gu_D4 (S : gv_S) (i k : Nat) (v : UInt64) : (gv_uD S i k v).2.2 = S.2.2 := rfl
theorem gu_c (S : gv_S) (i k : Nat) (v w : Int32) : gv_uI (gv_uI S i k v) i k w = gv_uI S i k w := by
  unfold gv_uI
  refine Prod.ext (funext fun a => funext fun b => ?_) rfl
  show (if a = i ∧ b = k then w else if a = i ∧ b = k then v else S.1 a b) = if a = i ∧ b = k then w else S.1 a b
  by_cases z : a = i ∧ b = k
  · rw [if_pos z, if_pos z]
  · rw [if_neg z, if_neg z, if_neg z]
theorem gu_s (S : gv_S) (i k : Nat) : gv_uI S i k (S.1 i k) = S := by
  unfold gv_uI
  refine Prod.ext (funext fun a => funext fun b => ?_) rfl
  show (if a = i ∧ b = k then S.1 i k else S.1 a b) = S.1 a b
  by_cases z : a = i ∧ b = k
  · rw [if_pos z, z.1, z.2]
  · rw [if_neg z]
section FDJ
variable {β : Sort _} (x y : β) {a b : UInt64}
theorem fj_lt (ha : fd_n a) (hb : fd_n b) (op : CmpOp) : (if Op.cmpValue (FP.dcmp a b) op < gI 0 then x else y) = if fd_k a < fd_k b then x else y := fi_lt x y ha hb op
theorem fj_le (ha : fd_n a) (hb : fd_n b) (op : CmpOp) : (if Op.cmpValue (FP.dcmp a b) op ≤ gI 0 then x else y) = if fd_k a ≤ fd_k b then x else y := fi_le x y ha hb op
theorem fj_gt (ha : fd_n a) (hb : fd_n b) (op : CmpOp) : (if gI 0 < Op.cmpValue (FP.dcmp a b) op then x else y) = if fd_k b < fd_k a then x else y := fi_gt x y ha hb op
theorem fj_ge (ha : fd_n a) (hb : fd_n b) (op : CmpOp) : (if gI 0 ≤ Op.cmpValue (FP.dcmp a b) op then x else y) = if fd_k b ≤ fd_k a then x else y := fi_ge x y ha hb op
theorem fj_eq (ha : fd_n a) (hb : fd_n b) (op : CmpOp) : (if Op.cmpValue (FP.dcmp a b) op = gI 0 then x else y) = if fd_k a = fd_k b then x else y := fi_eq x y ha hb op
end FDJ
section JJ
variable {β : Sort _} (x y : β) {a b : Int}
theorem ju_ge (h1 : -9223372036854775808 ≤ a) (h2 : a < 9223372036854775808) (h3 : -9223372036854775808 ≤ b) (h4 : b < 9223372036854775808) : (if gI 0 ≤ lg_cmp (gJ a) (gJ b) then x else y) = if b ≤ a then x else y := jte_ge x y a b h1 h2 h3 h4
theorem ju_le (h1 : -9223372036854775808 ≤ a) (h2 : a < 9223372036854775808) (h3 : -9223372036854775808 ≤ b) (h4 : b < 9223372036854775808) : (if lg_cmp (gJ a) (gJ b) ≤ gI 0 then x else y) = if a ≤ b then x else y := jte_le x y a b h1 h2 h3 h4
theorem ju_gt (h1 : -9223372036854775808 ≤ a) (h2 : a < 9223372036854775808) (h3 : -9223372036854775808 ≤ b) (h4 : b < 9223372036854775808) : (if gI 0 < lg_cmp (gJ a) (gJ b) then x else y) = if b < a then x else y := jte_gt x y a b h1 h2 h3 h4
theorem ju_lt (h1 : -9223372036854775808 ≤ a) (h2 : a < 9223372036854775808) (h3 : -9223372036854775808 ≤ b) (h4 : b < 9223372036854775808) : (if lg_cmp (gJ a) (gJ b) < gI 0 then x else y) = if a < b then x else y := jte_lt x y a b h1 h2 h3 h4
theorem ju_eq (h1 : -9223372036854775808 ≤ a) (h2 : a < 9223372036854775808) (h3 : -9223372036854775808 ≤ b) (h4 : b < 9223372036854775808) : (if lg_cmp (gJ a) (gJ b) = gI 0 then x else y) = if a = b then x else y := jte_eq x y a b h1 h2 h3 h4
end JJ
/-- only what P tells has changed -/
def mX (P : Nat → Nat → Prop) (S S' : gv_S) : Prop := (∀ a b, ¬ P a b → S'.1 a b = S.1 a b ∧ S'.2.1 a b = S.2.1 a b) ∧ S'.2.2 = S.2.2
section MX
variable {P Q : Nat → Nat → Prop} {S S' S'' : gv_S}
theorem mX.refl (P : Nat → Nat → Prop) (S : gv_S) : mX P S S := ⟨fun _ _ _ => ⟨rfl, rfl⟩, rfl⟩
theorem mX.trans (a : mX P S S') (c : mX P S' S'') : mX P S S'' := ⟨fun x y hx => ⟨((c.1 x y hx).1).trans (a.1 x y hx).1, ((c.1 x y hx).2).trans (a.1 x y hx).2⟩, c.2.trans a.2⟩
theorem mX.le (a : mX P S S') (h : ∀ x y, P x y → Q x y) : mX Q S S' := ⟨fun x y hx => a.1 x y fun q => hx (h x y q), a.2⟩
theorem mX.I {i k : Nat} (v : Int32) (h : P i k) : mX P S (gv_uI S i k v) := ⟨fun x y hx => ⟨if_neg fun q => hx (by rw [q.1, q.2]; exact h), rfl⟩, rfl⟩
theorem mX.D {i k : Nat} (v : UInt64) (h : P i k) : mX P S (gv_uD S i k v) := ⟨fun x y hx => ⟨rfl, if_neg fun q => hx (by rw [q.1, q.2]; exact h)⟩, rfl⟩
theorem mX.i (a : mX P S S') {x y : Nat} (h : ¬ P x y) : S'.1 x y = S.1 x y := (a.1 x y h).1
theorem mX.d (a : mX P S S') {x y : Nat} (h : ¬ P x y) : S'.2.1 x y = S.2.1 x y := (a.1 x y h).2
end MX
