/-! THE PURE PART: the law's start: what is made -/
def g0z (z : Option Nat) : Nat → Value
  | 0 => .int 1 | 1 => va_rf z | 2 => .ref 1 | 3 => .ref 2 | _ => .ref 3
def g0f (z : Option Nat) (g : Nat → gk_O) : Nat → gk_O := fun i => if i = 0 then (9, 5, g0z z) else g i
def iX (z : Option Nat) (g : Nat → gk_O) : Option ((Option Nat × Option Nat × Option Nat × Option Nat) × gk_H) :=
  gk_nw (16, 0, g0f z g) 5 4 fun x1 h1 =>
  gk_cv h1 x1 5 (f_A_init x1 h1) fun _ h2 =>
  gk_nw h2 7 25 fun x2 h3 =>
  gk_cv h3 x2 7 (f_M_init x2 h3) fun _ h4 =>
  gk_na h4 2 (1 : Int32) fun x3 h5 =>
  gk_na h5 6 (1 : Int32) fun x4 h6 =>
  some ((x1, x2, x3, x4), h6)
def iH (z : Option Nat) (g : Nat → gk_O) : gk_H := match iX z g with
  | some q => q.2
  | none => (0, 0, g)
theorem iX_eq (z : Option Nat) (g : Nat → gk_O) : iX z g = some ((some 16, some 30, some 42, some 43), iH z g) := rfl
theorem iH_1 (z : Option Nat) (g : Nat → gk_O) : (iH z g).1 = 44 := rfl
set_option maxRecDepth 100000 in
theorem iH_2 (z : Option Nat) (g : Nat → gk_O) : (iH z g).2.1 = 74200 := Nat.eq_of_beq_eq_true (Eq.refl true)
theorem iL_eq (z : Option Nat) (g : Nat → gk_O) : f_L_law (some 14) (16, 0, g0f z g) = f_L_law_b28 gk_F (some 14) (some 16) (some 30) (some 42) (some 43) (0 : Int32) (iH z g) := by
  have key : ∀ (K : Option Nat → Option Nat → Option Nat → Option Nat → gk_H → Option (Int32 × gk_H)), (gk_nw (16, 0, g0f z g) 5 4 fun x1 h1 => gk_cv h1 x1 5 (f_A_init x1 h1) fun _ h2 => gk_nw h2 7 25 fun x2 h3 => gk_cv h3 x2 7 (f_M_init x2 h3) fun _ h4 => gk_na h4 2 (1 : Int32) fun x3 h5 => gk_na h5 6 (1 : Int32) fun x4 h6 => K x1 x2 x3 x4 h6) = K (some 16) (some 30) (some 42) (some 43) (iH z g) := fun K => rfl
  exact key fun x1 x2 x3 x4 h6 => f_L_law_b28 gk_F (some 14) x1 x2 x3 x4 (0 : Int32) h6
/-- nothing is in what is made -/
def iS : gv_S := (fun _ _ => 0, fun _ _ => 0, fun _ _ => none, 0)

