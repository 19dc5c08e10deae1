/-! THE PURE PART: the law's start: the things that are made (3) -/
theorem iH_31 (z : Option Nat) (g : Nat → gk_O) : (iH z g).2.2 31 = (gv_tag 31, gv_len 31, gv_ct iS 31) := rfl
theorem iH_32 (z : Option Nat) (g : Nat → gk_O) : (iH z g).2.2 32 = (gv_tag 32, gv_len 32, gv_ct iS 32) := rfl
theorem iH_33 (z : Option Nat) (g : Nat → gk_O) : (iH z g).2.2 33 = (gv_tag 33, gv_len 33, gv_ct iS 33) := rfl
theorem iH_34 (z : Option Nat) (g : Nat → gk_O) : (iH z g).2.2 34 = (gv_tag 34, gv_len 34, gv_ct iS 34) := rfl
theorem iH_35 (z : Option Nat) (g : Nat → gk_O) : (iH z g).2.2 35 = (gv_tag 35, gv_len 35, gv_ct iS 35) := rfl
theorem iH_36 (z : Option Nat) (g : Nat → gk_O) : (iH z g).2.2 36 = (gv_tag 36, gv_len 36, gv_ct iS 36) := rfl
theorem iH_37 (z : Option Nat) (g : Nat → gk_O) : (iH z g).2.2 37 = (gv_tag 37, gv_len 37, gv_ct iS 37) := rfl
theorem iH_38 (z : Option Nat) (g : Nat → gk_O) : (iH z g).2.2 38 = (gv_tag 38, gv_len 38, gv_ct iS 38) := rfl
theorem iH_39 (z : Option Nat) (g : Nat → gk_O) : (iH z g).2.2 39 = (gv_tag 39, gv_len 39, gv_ct iS 39) := rfl
theorem iH_40 (z : Option Nat) (g : Nat → gk_O) : (iH z g).2.2 40 = (gv_tag 40, gv_len 40, gv_ct iS 40) := rfl
theorem iH_41 (z : Option Nat) (g : Nat → gk_O) : (iH z g).2.2 41 = (gv_tag 41, gv_len 41, gv_ct iS 41) := rfl
theorem iH_42 (z : Option Nat) (g : Nat → gk_O) : (iH z g).2.2 42 = (gv_tag 42, gv_len 42, gv_ct iS 42) := by
  refine Prod.ext rfl (Prod.ext rfl (funext fun k => ?_))
  show Value.long 0 = Value.long (if k = 0 then 0 else 0)
  split <;> rfl
theorem iH_43 (z : Option Nat) (g : Nat → gk_O) : (iH z g).2.2 43 = (gv_tag 43, gv_len 43, gv_ct iS 43) := rfl
theorem iH_low (z : Option Nat) (g : Nat → gk_O) : ∀ i, 1 ≤ i → i < 16 → (iH z g).2.2 i = g i
  | 0, h, _ => absurd h (by decide)
  | 1, _, _ => rfl
  | 2, _, _ => rfl
  | 3, _, _ => rfl
  | 4, _, _ => rfl
  | 5, _, _ => rfl
  | 6, _, _ => rfl
  | 7, _, _ => rfl
  | 8, _, _ => rfl
  | 9, _, _ => rfl
  | 10, _, _ => rfl
  | 11, _, _ => rfl
  | 12, _, _ => rfl
  | 13, _, _ => rfl
  | 14, _, _ => rfl
  | 15, _, _ => rfl
  | n + 16, _, h => absurd h (by omega)
theorem iH_0 (z : Option Nat) (g : Nat → gk_O) : (iH z g).2.2 0 = (9, 5, g0z z) := rfl
theorem iH_ov (z : Option Nat) (g : Nat → gk_O) : iH z g = gv_ov (iH z g) iS := by
  refine gv_ext rfl rfl fun i => ?_
  by_cases hf : gv_fx i = true
  · rw [gv_at hf]
    have hlt : i < 44 := by
      unfold gv_fx at hf
      simp only [Bool.and_eq_true] at hf
      exact Nat.lt_of_succ_le (Nat.le_of_ble_eq_true hf.1.1.1.1.2)
    match i, hf, hlt with
    | 0, hf, _ => exact absurd hf (by decide)
    | 1, hf, _ => exact absurd hf (by decide)
    | 2, hf, _ => exact absurd hf (by decide)
    | 3, hf, _ => exact absurd hf (by decide)
    | 4, hf, _ => exact absurd hf (by decide)
    | 5, hf, _ => exact absurd hf (by decide)
    | 6, hf, _ => exact absurd hf (by decide)
    | 7, hf, _ => exact absurd hf (by decide)
    | 8, hf, _ => exact absurd hf (by decide)
    | 9, hf, _ => exact absurd hf (by decide)
    | 10, hf, _ => exact absurd hf (by decide)
    | 11, hf, _ => exact absurd hf (by decide)
    | 12, hf, _ => exact absurd hf (by decide)
    | 13, hf, _ => exact absurd hf (by decide)
    | 14, hf, _ => exact absurd hf (by decide)
    | 15, hf, _ => exact absurd hf (by decide)
    | 16, _, _ => exact iH_16 z g
    | 17, _, _ => exact iH_17 z g
    | 18, hf, _ => exact absurd hf (by decide)
    | 19, hf, _ => exact absurd hf (by decide)
    | 20, _, _ => exact iH_20 z g
    | 21, _, _ => exact iH_21 z g
    | 22, _, _ => exact iH_22 z g
    | 23, _, _ => exact iH_23 z g
    | 24, hf, _ => exact absurd hf (by decide)
    | 25, hf, _ => exact absurd hf (by decide)
    | 26, _, _ => exact iH_26 z g
    | 27, _, _ => exact iH_27 z g
    | 28, _, _ => exact iH_28 z g
    | 29, _, _ => exact iH_29 z g
    | 30, _, _ => exact iH_30 z g
    | 31, _, _ => exact iH_31 z g
    | 32, _, _ => exact iH_32 z g
    | 33, _, _ => exact iH_33 z g
    | 34, _, _ => exact iH_34 z g
    | 35, _, _ => exact iH_35 z g
    | 36, _, _ => exact iH_36 z g
    | 37, _, _ => exact iH_37 z g
    | 38, _, _ => exact iH_38 z g
    | 39, _, _ => exact iH_39 z g
    | 40, _, _ => exact iH_40 z g
    | 41, _, _ => exact iH_41 z g
    | 42, _, _ => exact iH_42 z g
    | 43, _, _ => exact iH_43 z g
    | n + 44, _, h => exact absurd h (by omega)
  · have hf' : gv_fx i = false := by
      cases h : gv_fx i with
      | true => exact absurd h hf
      | false => rfl
    rw [gv_no hf']
