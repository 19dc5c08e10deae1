/-! THE PURE PART: the law's start: the things that are made (2) -/
def iF30 : Nat → Value := (gk_put (gk_put (gk_put (gk_put (gk_put (gk_put (gk_put (gk_put (gk_put (gk_put (gk_put (fun k => defaultValue (gk_ty 7 k)) 2 (va_rf (some 31))) 4 (va_rf (some 32))) 5 (va_rf (some 33))) 6 (va_rf (some 34))) 7 (va_rf (some 35))) 8 (va_rf (some 36))) 9 (va_rf (some 37))) 10 (va_rf (some 38))) 13 (va_rf (some 39))) 14 (va_rf (some 40))) 15 (va_rf (some 41)))
theorem iH_30f (z : Option Nat) (g : Nat → gk_O) : ((iH z g).2.2 30).2.2 = iF30 := rfl
theorem iF30_eq : iF30 = gv_ct iS 30 := by
  refine funext fun k => ?_
  match k with
  | 0 => rfl
  | 1 => rfl
  | 2 => rfl
  | 3 => rfl
  | 4 => rfl
  | 5 => rfl
  | 6 => rfl
  | 7 => rfl
  | 8 => rfl
  | 9 => rfl
  | 10 => rfl
  | 11 => rfl
  | 12 => rfl
  | 13 => rfl
  | 14 => rfl
  | 15 => rfl
  | 16 => rfl
  | 17 => rfl
  | 18 => rfl
  | 19 => rfl
  | 20 => rfl
  | 21 => rfl
  | 22 => rfl
  | 23 => rfl
  | 24 => rfl
  | k + 25 => rfl
theorem iH_30 (z : Option Nat) (g : Nat → gk_O) : (iH z g).2.2 30 = (gv_tag 30, gv_len 30, gv_ct iS 30) := Prod.ext rfl (Prod.ext rfl ((iH_30f z g).trans iF30_eq))
