/-! THE PURE PART: the law's start: the things that are made (1) -/
theorem iH_16 (z : Option Nat) (g : Nat → gk_O) : (iH z g).2.2 16 = (gv_tag 16, gv_len 16, gv_ct iS 16) := by
  refine Prod.ext rfl (Prod.ext rfl (funext fun k => ?_))
  match k with
  | 0 => rfl
  | 1 => rfl
  | 2 => rfl
  | 3 => rfl
  | k + 4 => rfl
theorem iH_17 (z : Option Nat) (g : Nat → gk_O) : (iH z g).2.2 17 = (gv_tag 17, gv_len 17, gv_ct iS 17) := rfl
theorem iH_20 (z : Option Nat) (g : Nat → gk_O) : (iH z g).2.2 20 = (gv_tag 20, gv_len 20, gv_ct iS 20) := by
  refine Prod.ext rfl (Prod.ext rfl (funext fun k => ?_))
  match k with
  | 0 => rfl
  | 1 => rfl
  | 2 => rfl
  | 3 => rfl
  | 4 => rfl
  | 5 => rfl
  | 6 => rfl
  | 7 => rfl
  | 8 => rfl
  | k + 9 => rfl
theorem iH_21 (z : Option Nat) (g : Nat → gk_O) : (iH z g).2.2 21 = (gv_tag 21, gv_len 21, gv_ct iS 21) := rfl
theorem iH_22 (z : Option Nat) (g : Nat → gk_O) : (iH z g).2.2 22 = (gv_tag 22, gv_len 22, gv_ct iS 22) := rfl
theorem iH_23 (z : Option Nat) (g : Nat → gk_O) : (iH z g).2.2 23 = (gv_tag 23, gv_len 23, gv_ct iS 23) := rfl
theorem iH_26 (z : Option Nat) (g : Nat → gk_O) : (iH z g).2.2 26 = (gv_tag 26, gv_len 26, gv_ct iS 26) := by
  refine Prod.ext rfl (Prod.ext rfl (funext fun k => ?_))
  match k with
  | 0 => rfl
  | 1 => rfl
  | 2 => rfl
  | 3 => rfl
  | k + 4 => rfl
theorem iH_27 (z : Option Nat) (g : Nat → gk_O) : (iH z g).2.2 27 = (gv_tag 27, gv_len 27, gv_ct iS 27) := rfl
theorem iH_28 (z : Option Nat) (g : Nat → gk_O) : (iH z g).2.2 28 = (gv_tag 28, gv_len 28, gv_ct iS 28) := rfl
theorem iH_29 (z : Option Nat) (g : Nat → gk_O) : (iH z g).2.2 29 = (gv_tag 29, gv_len 29, gv_ct iS 29) := rfl
