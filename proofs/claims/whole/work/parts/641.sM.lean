theorem d_M_init_0 : decode b_M_init 0 = .ok (.aload_n 0, 1) := by decide +kernel
theorem d_M_init_1 : decode b_M_init 1 = .ok (.invokespecial 1, 3) := by decide +kernel
theorem d_M_init_4 : decode b_M_init 4 = .ok (.aload_n 0, 1) := by decide +kernel
theorem d_M_init_5 : decode b_M_init 5 = .ok (.sipush 256, 3) := by decide +kernel
theorem d_M_init_8 : decode b_M_init 8 = .ok (.newarray .byte, 2) := by decide +kernel
theorem d_M_init_10 : decode b_M_init 10 = .ok (.putfield 7, 3) := by decide +kernel
theorem d_M_init_13 : decode b_M_init 13 = .ok (.aload_n 0, 1) := by decide +kernel
theorem d_M_init_14 : decode b_M_init 14 = .ok (.bipush 17, 2) := by decide +kernel
theorem d_M_init_16 : decode b_M_init 16 = .ok (.newarray .int, 2) := by decide +kernel
theorem d_M_init_18 : decode b_M_init 18 = .ok (.putfield 13, 3) := by decide +kernel
theorem d_M_init_21 : decode b_M_init 21 = .ok (.aload_n 0, 1) := by decide +kernel
theorem d_M_init_22 : decode b_M_init 22 = .ok (.bipush 17, 2) := by decide +kernel
theorem d_M_init_24 : decode b_M_init 24 = .ok (.newarray .int, 2) := by decide +kernel
theorem d_M_init_26 : decode b_M_init 26 = .ok (.putfield 17, 3) := by decide +kernel
theorem d_M_init_29 : decode b_M_init 29 = .ok (.aload_n 0, 1) := by decide +kernel
theorem d_M_init_30 : decode b_M_init 30 = .ok (.bipush 17, 2) := by decide +kernel
theorem d_M_init_32 : decode b_M_init 32 = .ok (.newarray .int, 2) := by decide +kernel
theorem d_M_init_34 : decode b_M_init 34 = .ok (.putfield 20, 3) := by decide +kernel
theorem d_M_init_37 : decode b_M_init 37 = .ok (.aload_n 0, 1) := by decide +kernel
theorem d_M_init_38 : decode b_M_init 38 = .ok (.sipush 272, 3) := by decide +kernel
theorem d_M_init_41 : decode b_M_init 41 = .ok (.newarray .int, 2) := by decide +kernel
theorem d_M_init_43 : decode b_M_init 43 = .ok (.putfield 23, 3) := by decide +kernel
theorem d_M_init_46 : decode b_M_init 46 = .ok (.aload_n 0, 1) := by decide +kernel
theorem d_M_init_47 : decode b_M_init 47 = .ok (.sipush 272, 3) := by decide +kernel
theorem d_M_init_50 : decode b_M_init 50 = .ok (.newarray .double, 2) := by decide +kernel
theorem d_M_init_52 : decode b_M_init 52 = .ok (.putfield 26, 3) := by decide +kernel
theorem d_M_init_55 : decode b_M_init 55 = .ok (.aload_n 0, 1) := by decide +kernel
theorem d_M_init_56 : decode b_M_init 56 = .ok (.sipush 272, 3) := by decide +kernel
theorem d_M_init_59 : decode b_M_init 59 = .ok (.newarray .int, 2) := by decide +kernel
theorem d_M_init_61 : decode b_M_init 61 = .ok (.putfield 30, 3) := by decide +kernel
theorem d_M_init_64 : decode b_M_init 64 = .ok (.aload_n 0, 1) := by decide +kernel
theorem d_M_init_65 : decode b_M_init 65 = .ok (.ldc 33, 2) := by decide +kernel
theorem d_M_init_67 : decode b_M_init 67 = .ok (.newarray .byte, 2) := by decide +kernel
theorem d_M_init_69 : decode b_M_init 69 = .ok (.putfield 34, 3) := by decide +kernel
theorem d_M_init_72 : decode b_M_init 72 = .ok (.aload_n 0, 1) := by decide +kernel
theorem d_M_init_73 : decode b_M_init 73 = .ok (.sipush 128, 3) := by decide +kernel
theorem d_M_init_76 : decode b_M_init 76 = .ok (.newarray .double, 2) := by decide +kernel
theorem d_M_init_78 : decode b_M_init 78 = .ok (.putfield 37, 3) := by decide +kernel
theorem d_M_init_81 : decode b_M_init 81 = .ok (.aload_n 0, 1) := by decide +kernel
theorem d_M_init_82 : decode b_M_init 82 = .ok (.bipush 9, 2) := by decide +kernel
theorem d_M_init_84 : decode b_M_init 84 = .ok (.newarray .int, 2) := by decide +kernel
theorem d_M_init_86 : decode b_M_init 86 = .ok (.putfield 40, 3) := by decide +kernel
theorem d_M_init_89 : decode b_M_init 89 = .ok (.aload_n 0, 1) := by decide +kernel
theorem d_M_init_90 : decode b_M_init 90 = .ok (.sipush 2304, 3) := by decide +kernel
theorem d_M_init_93 : decode b_M_init 93 = .ok (.newarray .byte, 2) := by decide +kernel
theorem d_M_init_95 : decode b_M_init 95 = .ok (.putfield 43, 3) := by decide +kernel
theorem d_M_init_98 : decode b_M_init 98 = .ok (.return_, 1) := by decide +kernel
theorem w_M_init (d : Nat) (a0 : Option Nat) (h : gk_H) : gk_P gw_V (d + 1) y_M_init b_M_init 1 none [] (f_M_init a0 h) 0 [(0, va_rf a0)] [] h := by
  unfold f_M_init
  refine gk_aload_n (pc := 0) 0 d_M_init_0 rfl ?_
  refine gk_objI (pc := 1) (d := d) d_M_init_1 tw_1643 (Nat.le_of_ble_eq_true rfl) ?_
  refine gk_aload_n (pc := 4) 0 d_M_init_4 rfl ?_
  refine gk_sipush (pc := 5) (256 : Int32) d_M_init_5 rfl ?_
  refine gk_newA (pc := 8) 3 d_M_init_8 rfl tw_167 (Nat.le_of_ble_eq_true rfl) fun x1 h1 => ?_
  refine gk_putfield (pc := 10) 7 2 d_M_init_10 rfl (Nat.le_of_ble_eq_true rfl) tw_1647 (Or.inr ⟨rfl, rfl⟩) fun h2 => ?_
  refine gk_aload_n (pc := 13) 0 d_M_init_13 rfl ?_
  refine gk_bipush (pc := 14) (17 : Int32) d_M_init_14 rfl ?_
  refine gk_newA (pc := 16) 1 d_M_init_16 rfl tw_257 (Nat.le_of_ble_eq_true rfl) fun x2 h3 => ?_
  refine gk_putfield (pc := 18) 7 4 d_M_init_18 rfl (Nat.le_of_ble_eq_true rfl) tw_1649 (Or.inr ⟨rfl, rfl⟩) fun h4 => ?_
  refine gk_aload_n (pc := 21) 0 d_M_init_21 rfl ?_
  refine gk_bipush (pc := 22) (17 : Int32) d_M_init_22 rfl ?_
  refine gk_newA (pc := 24) 1 d_M_init_24 rfl tw_257 (Nat.le_of_ble_eq_true rfl) fun x3 h5 => ?_
  refine gk_putfield (pc := 26) 7 5 d_M_init_26 rfl (Nat.le_of_ble_eq_true rfl) tw_1650 (Or.inr ⟨rfl, rfl⟩) fun h6 => ?_
  refine gk_aload_n (pc := 29) 0 d_M_init_29 rfl ?_
  refine gk_bipush (pc := 30) (17 : Int32) d_M_init_30 rfl ?_
  refine gk_newA (pc := 32) 1 d_M_init_32 rfl tw_257 (Nat.le_of_ble_eq_true rfl) fun x4 h7 => ?_
  refine gk_putfield (pc := 34) 7 6 d_M_init_34 rfl (Nat.le_of_ble_eq_true rfl) tw_1651 (Or.inr ⟨rfl, rfl⟩) fun h8 => ?_
  refine gk_aload_n (pc := 37) 0 d_M_init_37 rfl ?_
  refine gk_sipush (pc := 38) (272 : Int32) d_M_init_38 rfl ?_
  refine gk_newA (pc := 41) 1 d_M_init_41 rfl tw_257 (Nat.le_of_ble_eq_true rfl) fun x5 h9 => ?_
  refine gk_putfield (pc := 43) 7 7 d_M_init_43 rfl (Nat.le_of_ble_eq_true rfl) tw_1652 (Or.inr ⟨rfl, rfl⟩) fun h10 => ?_
  refine gk_aload_n (pc := 46) 0 d_M_init_46 rfl ?_
  refine gk_sipush (pc := 47) (272 : Int32) d_M_init_47 rfl ?_
  refine gk_newA (pc := 50) 6 d_M_init_50 rfl tw_234 (Nat.le_of_ble_eq_true rfl) fun x6 h11 => ?_
  refine gk_putfield (pc := 52) 7 8 d_M_init_52 rfl (Nat.le_of_ble_eq_true rfl) tw_1653 (Or.inr ⟨rfl, rfl⟩) fun h12 => ?_
  refine gk_aload_n (pc := 55) 0 d_M_init_55 rfl ?_
  refine gk_sipush (pc := 56) (272 : Int32) d_M_init_56 rfl ?_
  refine gk_newA (pc := 59) 1 d_M_init_59 rfl tw_257 (Nat.le_of_ble_eq_true rfl) fun x7 h13 => ?_
  refine gk_putfield (pc := 61) 7 9 d_M_init_61 rfl (Nat.le_of_ble_eq_true rfl) tw_1654 (Or.inr ⟨rfl, rfl⟩) fun h14 => ?_
  refine gk_aload_n (pc := 64) 0 d_M_init_64 rfl ?_
  refine gk_ldc (pc := 65) tw_1644 d_M_init_65 ?_
  refine gk_newA (pc := 67) 3 d_M_init_67 rfl tw_167 (Nat.le_of_ble_eq_true rfl) fun x8 h15 => ?_
  refine gk_putfield (pc := 69) 7 10 d_M_init_69 rfl (Nat.le_of_ble_eq_true rfl) tw_1655 (Or.inr ⟨rfl, rfl⟩) fun h16 => ?_
  refine gk_aload_n (pc := 72) 0 d_M_init_72 rfl ?_
  refine gk_sipush (pc := 73) (128 : Int32) d_M_init_73 rfl ?_
  refine gk_newA (pc := 76) 6 d_M_init_76 rfl tw_234 (Nat.le_of_ble_eq_true rfl) fun x9 h17 => ?_
  refine gk_putfield (pc := 78) 7 13 d_M_init_78 rfl (Nat.le_of_ble_eq_true rfl) tw_1658 (Or.inr ⟨rfl, rfl⟩) fun h18 => ?_
  refine gk_aload_n (pc := 81) 0 d_M_init_81 rfl ?_
  refine gk_bipush (pc := 82) (9 : Int32) d_M_init_82 rfl ?_
  refine gk_newA (pc := 84) 1 d_M_init_84 rfl tw_257 (Nat.le_of_ble_eq_true rfl) fun x10 h19 => ?_
  refine gk_putfield (pc := 86) 7 14 d_M_init_86 rfl (Nat.le_of_ble_eq_true rfl) tw_1659 (Or.inr ⟨rfl, rfl⟩) fun h20 => ?_
  refine gk_aload_n (pc := 89) 0 d_M_init_89 rfl ?_
  refine gk_sipush (pc := 90) (2304 : Int32) d_M_init_90 rfl ?_
  refine gk_newA (pc := 93) 3 d_M_init_93 rfl tw_167 (Nat.le_of_ble_eq_true rfl) fun x11 h21 => ?_
  refine gk_putfield (pc := 95) 7 15 d_M_init_95 rfl (Nat.le_of_ble_eq_true rfl) tw_1660 (Or.inr ⟨rfl, rfl⟩) fun h22 => ?_
  exact gk_vret (pc := 98) rfl d_M_init_98 rfl
theorem p_M_init (d : Nat) (a0 : Option Nat) (h : gk_H) : ∀ r h1, f_M_init a0 h = some (r, h1) → gk_M (d + 1) y_M_init b_M_init 1 none [va_rf a0] h (.inl (gv_V r)) h1 :=
  fun r h1 e => gk_M_of2 (by decide +kernel) (by simp [lv_args, gk_cat_rf, gk_catI, gk_catJ, gk_catD, gv_V, gv_I, gv_J, gv_D, gv_R]) (by simp [lg_sl, gk_cat_rf, gk_catI, gk_catJ, gk_catD, gv_V, gv_I, gv_J, gv_D, gv_R]) (w_M_init d a0 h r h1 e)
theorem d_M_thrown_0 : decode b_M_thrown 0 = .ok (.aload_n 0, 1) := by decide +kernel
theorem d_M_thrown_1 : decode b_M_thrown 1 = .ok (.getfield 46, 3) := by decide +kernel
theorem d_M_thrown_4 : decode b_M_thrown 4 = .ok (.ireturn, 1) := by decide +kernel
theorem w_M_thrown (d : Nat) (a0 : Option Nat) (h : gk_H) : gk_P gw_I d y_M_thrown b_M_thrown 1 (some .int) [] (f_M_thrown a0 h) 0 [(0, va_rf a0)] [] h := by
  unfold f_M_thrown
  refine gk_aload_n (pc := 0) 0 d_M_thrown_0 rfl ?_
  refine gk_getI (pc := 1) 7 0 d_M_thrown_1 rfl (Nat.le_of_ble_eq_true rfl) tw_1645 fun x1 => ?_
  exact gk_iret (pc := 4) rfl d_M_thrown_4 rfl
theorem p_M_thrown (d : Nat) (a0 : Option Nat) (h : gk_H) : ∀ r h1, f_M_thrown a0 h = some (r, h1) → gk_M d y_M_thrown b_M_thrown 1 (some .int) [va_rf a0] h (.inl (gv_I r)) h1 :=
  fun r h1 e => gk_M_of2 (by decide +kernel) (by simp [lv_args, gk_cat_rf, gk_catI, gk_catJ, gk_catD, gv_V, gv_I, gv_J, gv_D, gv_R]) (by simp [lg_sl, gk_cat_rf, gk_catI, gk_catJ, gk_catD, gv_V, gv_I, gv_J, gv_D, gv_R]) (w_M_thrown d a0 h r h1 e)
theorem d_M_isFull_0 : decode b_M_isFull 0 = .ok (.iload_n 1, 1) := by decide +kernel
theorem d_M_isFull_1 : decode b_M_isFull 1 = .ok (.istore_n 2, 1) := by decide +kernel
theorem d_M_isFull_2 : decode b_M_isFull 2 = .ok (.iconst 0, 1) := by decide +kernel
theorem d_M_isFull_3 : decode b_M_isFull 3 = .ok (.istore_n 3, 1) := by decide +kernel
theorem d_M_isFull_4 : decode b_M_isFull 4 = .ok (.iload_n 3, 1) := by decide +kernel
theorem d_M_isFull_5 : decode b_M_isFull 5 = .ok (.aload_n 0, 1) := by decide +kernel
theorem d_M_isFull_6 : decode b_M_isFull 6 = .ok (.getfield 69, 3) := by decide +kernel
theorem d_M_isFull_9 : decode b_M_isFull 9 = .ok (.if_icmp .ge 25, 3) := by decide +kernel
theorem d_M_isFull_12 : decode b_M_isFull 12 = .ok (.iload_n 2, 1) := by decide +kernel
theorem d_M_isFull_13 : decode b_M_isFull 13 = .ok (.aload_n 0, 1) := by decide +kernel
theorem d_M_isFull_14 : decode b_M_isFull 14 = .ok (.getfield 17, 3) := by decide +kernel
theorem d_M_isFull_17 : decode b_M_isFull 17 = .ok (.iload_n 3, 1) := by decide +kernel
theorem d_M_isFull_18 : decode b_M_isFull 18 = .ok (.iaload, 1) := by decide +kernel
theorem d_M_isFull_19 : decode b_M_isFull 19 = .ok (.aload_n 0, 1) := by decide +kernel
theorem d_M_isFull_20 : decode b_M_isFull 20 = .ok (.getfield 20, 3) := by decide +kernel
theorem d_M_isFull_23 : decode b_M_isFull 23 = .ok (.iload_n 3, 1) := by decide +kernel
theorem d_M_isFull_24 : decode b_M_isFull 24 = .ok (.iaload, 1) := by decide +kernel
theorem d_M_isFull_25 : decode b_M_isFull 25 = .ok (.imul, 1) := by decide +kernel
theorem d_M_isFull_26 : decode b_M_isFull 26 = .ok (.iadd, 1) := by decide +kernel
theorem d_M_isFull_27 : decode b_M_isFull 27 = .ok (.istore_n 2, 1) := by decide +kernel
theorem d_M_isFull_28 : decode b_M_isFull 28 = .ok (.iinc 3 1, 3) := by decide +kernel
theorem d_M_isFull_31 : decode b_M_isFull 31 = .ok (.goto (-27), 3) := by decide +kernel
theorem d_M_isFull_34 : decode b_M_isFull 34 = .ok (.aload_n 0, 1) := by decide +kernel
theorem d_M_isFull_35 : decode b_M_isFull 35 = .ok (.getfield 69, 3) := by decide +kernel
theorem d_M_isFull_38 : decode b_M_isFull 38 = .ok (.bipush 16, 2) := by decide +kernel
theorem d_M_isFull_40 : decode b_M_isFull 40 = .ok (.if_icmp .eq 10, 3) := by decide +kernel
theorem d_M_isFull_43 : decode b_M_isFull 43 = .ok (.iload_n 2, 1) := by decide +kernel
theorem d_M_isFull_44 : decode b_M_isFull 44 = .ok (.sipush 256, 3) := by decide +kernel
theorem d_M_isFull_47 : decode b_M_isFull 47 = .ok (.if_icmp .le 7, 3) := by decide +kernel
theorem d_M_isFull_50 : decode b_M_isFull 50 = .ok (.iconst 1, 1) := by decide +kernel
theorem d_M_isFull_51 : decode b_M_isFull 51 = .ok (.goto 4, 3) := by decide +kernel
theorem d_M_isFull_54 : decode b_M_isFull 54 = .ok (.iconst 0, 1) := by decide +kernel
theorem d_M_isFull_55 : decode b_M_isFull 55 = .ok (.ireturn, 1) := by decide +kernel
theorem p_M_isFull_b55 (d : Nat)  (s0 : Int32) (h : gk_H) : gk_P gw_I d y_M_isFull b_M_isFull 4 (some .boolean) [] (f_M_isFull_b55  s0 h) 55 [] [.int s0] h := by
  unfold f_M_isFull_b55
  exact gk_zret (pc := 55) rfl d_M_isFull_55 rfl
theorem p_M_isFull_b50 (d : Nat)   (h : gk_H) : gk_P gw_I d y_M_isFull b_M_isFull 4 (some .boolean) [] (f_M_isFull_b50   h) 50 [] [] h := by
  unfold f_M_isFull_b50
  refine gk_iconst (pc := 50) (1 : Int32) d_M_isFull_50 rfl ?_
  refine gk_goto (pc := 51) 55 d_M_isFull_51 rfl ?_
  exact p_M_isFull_b55 d (1 : Int32) h
theorem p_M_isFull_b4 (d : Nat)  : ∀ (fu : Nat) (v0 : Option Nat) (v2 : Int32) (v3 : Int32) (h : gk_H), gk_P gw_I d y_M_isFull b_M_isFull 4 (some .boolean) [] (f_M_isFull_b4  fu v0 v2 v3 h) 4 [(0, va_rf v0), (2, .int v2), (3, .int v3)] [] h := by
  intro fu
  induction fu with
  | zero => intros; exact gk_none
  | succ fu q4 =>
    intro v0 v2 v3 h
    rw [f_M_isFull_b4]
    refine gk_iload_n (pc := 4) 2 d_M_isFull_4 rfl ?_
    refine gk_aload_n (pc := 5) 0 d_M_isFull_5 rfl ?_
    refine gk_getI (pc := 6) 7 3 d_M_isFull_6 rfl (Nat.le_of_ble_eq_true rfl) tw_1648 fun x1 => ?_
    refine gk_icmp_ge (pc := 9) 34 d_M_isFull_9 rfl (fun _ => ?_) (fun _ => ?_)
    · refine gk_aload_n (pc := 34) 0 d_M_isFull_34 rfl ?_
      refine gk_getI (pc := 35) 7 3 d_M_isFull_35 rfl (Nat.le_of_ble_eq_true rfl) tw_1648 fun x2 => ?_
      refine gk_bipush (pc := 38) (16 : Int32) d_M_isFull_38 rfl ?_
      refine gk_icmp_eq (pc := 40) 50 d_M_isFull_40 rfl (fun _ => ?_) (fun _ => ?_)
      · refine gk_weak [] (L' := []) rfl ?_
        exact p_M_isFull_b50 d h
      · refine gk_iload_n (pc := 43) 1 d_M_isFull_43 rfl ?_
        refine gk_sipush (pc := 44) (256 : Int32) d_M_isFull_44 rfl ?_
        refine gk_icmp_le (pc := 47) 54 d_M_isFull_47 rfl (fun _ => ?_) (fun _ => ?_)
        · refine gk_iconst (pc := 54) (0 : Int32) d_M_isFull_54 rfl ?_
          refine gk_weak [] (L' := []) rfl ?_
          exact p_M_isFull_b55 d (0 : Int32) h
        · refine gk_weak [] (L' := []) rfl ?_
          exact p_M_isFull_b50 d h
    · refine gk_iload_n (pc := 12) 1 d_M_isFull_12 rfl ?_
      refine gk_aload_n (pc := 13) 0 d_M_isFull_13 rfl ?_
      refine gk_getR (pc := 14) 7 5 d_M_isFull_14 rfl (Nat.le_of_ble_eq_true rfl) tw_1650 fun x3 => ?_
      refine gk_iload_n (pc := 17) 2 d_M_isFull_17 rfl ?_
      refine gk_iald (pc := 18) d_M_isFull_18 fun x4 => ?_
      refine gk_aload_n (pc := 19) 0 d_M_isFull_19 rfl ?_
      refine gk_getR (pc := 20) 7 6 d_M_isFull_20 rfl (Nat.le_of_ble_eq_true rfl) tw_1651 fun x5 => ?_
      refine gk_iload_n (pc := 23) 2 d_M_isFull_23 rfl ?_
      refine gk_iald (pc := 24) d_M_isFull_24 fun x6 => ?_
      refine gk_imul (pc := 25) d_M_isFull_25 ?_
      refine gk_iadd (pc := 26) d_M_isFull_26 ?_
      refine gk_topI (pc := 27) fun x7 => ?_
      refine gk_istore_n (pc := 27) (L' := [(2, .int x7), (0, va_rf v0), (3, .int v3)]) d_M_isFull_27 (Nat.le_of_ble_eq_true rfl) rfl ?_
      refine gk_iincN (pc := 28) 2 (1 : Int32) (L' := fun x8 => [(3, .int x8), (2, .int x7), (0, va_rf v0)]) d_M_isFull_28 rfl rfl (Nat.le_of_ble_eq_true rfl) (fun _ => rfl) fun x8 => ?_
      refine gk_goto (pc := 31) 4 d_M_isFull_31 rfl ?_
      refine gk_weak [2, 1, 0] (L' := [(0, va_rf v0), (2, .int x7), (3, .int x8)]) rfl ?_
      exact q4 v0 x7 x8 h
theorem w_M_isFull (d : Nat) (a0 : Option Nat) (a1 : Int32) (h : gk_H) : gk_P gw_I d y_M_isFull b_M_isFull 4 (some .boolean) [] (f_M_isFull a0 a1 h) 0 [(0, va_rf a0), (1, .int a1)] [] h := by
  unfold f_M_isFull
  refine gk_iload_n (pc := 0) 1 d_M_isFull_0 rfl ?_
  refine gk_istore_n (pc := 1) (L' := [(2, .int a1), (0, va_rf a0), (1, .int a1)]) d_M_isFull_1 (Nat.le_of_ble_eq_true rfl) rfl ?_
  refine gk_iconst (pc := 2) (0 : Int32) d_M_isFull_2 rfl ?_
  refine gk_istore_n (pc := 3) (L' := [(3, .int (0 : Int32)), (2, .int a1), (0, va_rf a0), (1, .int a1)]) d_M_isFull_3 (Nat.le_of_ble_eq_true rfl) rfl ?_
  refine gk_weak [2, 1, 0] (L' := [(0, va_rf a0), (2, .int a1), (3, .int (0 : Int32))]) rfl ?_
  exact p_M_isFull_b4 d gk_F a0 a1 (0 : Int32) h
theorem p_M_isFull (d : Nat) (a0 : Option Nat) (a1 : Int32) (h : gk_H) : ∀ r h1, f_M_isFull a0 a1 h = some (r, h1) → gk_M d y_M_isFull b_M_isFull 4 (some .boolean) [va_rf a0, .int a1] h (.inl (gv_I r)) h1 :=
  fun r h1 e => gk_M_of2 (by decide +kernel) (by simp [lv_args, gk_cat_rf, gk_catI, gk_catJ, gk_catD, gv_V, gv_I, gv_J, gv_D, gv_R]) (by simp [lg_sl, gk_cat_rf, gk_catI, gk_catJ, gk_catD, gv_V, gv_I, gv_J, gv_D, gv_R]) (w_M_isFull d a0 a1 h r h1 e)
theorem d_M_setSingle_0 : decode b_M_setSingle 0 = .ok (.aload_n 0, 1) := by decide +kernel
theorem d_M_setSingle_1 : decode b_M_setSingle 1 = .ok (.getfield 13, 3) := by decide +kernel
theorem d_M_setSingle_4 : decode b_M_setSingle 4 = .ok (.iload_n 1, 1) := by decide +kernel
theorem d_M_setSingle_5 : decode b_M_setSingle 5 = .ok (.iload_n 2, 1) := by decide +kernel
theorem d_M_setSingle_6 : decode b_M_setSingle 6 = .ok (.iastore, 1) := by decide +kernel
theorem d_M_setSingle_7 : decode b_M_setSingle 7 = .ok (.aload_n 0, 1) := by decide +kernel
theorem d_M_setSingle_8 : decode b_M_setSingle 8 = .ok (.getfield 17, 3) := by decide +kernel
theorem d_M_setSingle_11 : decode b_M_setSingle 11 = .ok (.iload_n 1, 1) := by decide +kernel
theorem d_M_setSingle_12 : decode b_M_setSingle 12 = .ok (.iconst 1, 1) := by decide +kernel
theorem d_M_setSingle_13 : decode b_M_setSingle 13 = .ok (.iastore, 1) := by decide +kernel
theorem d_M_setSingle_14 : decode b_M_setSingle 14 = .ok (.aload_n 0, 1) := by decide +kernel
theorem d_M_setSingle_15 : decode b_M_setSingle 15 = .ok (.getfield 20, 3) := by decide +kernel
theorem d_M_setSingle_18 : decode b_M_setSingle 18 = .ok (.iload_n 1, 1) := by decide +kernel
theorem d_M_setSingle_19 : decode b_M_setSingle 19 = .ok (.iconst 1, 1) := by decide +kernel
theorem d_M_setSingle_20 : decode b_M_setSingle 20 = .ok (.iastore, 1) := by decide +kernel
theorem d_M_setSingle_21 : decode b_M_setSingle 21 = .ok (.aload_n 0, 1) := by decide +kernel
theorem d_M_setSingle_22 : decode b_M_setSingle 22 = .ok (.getfield 23, 3) := by decide +kernel
theorem d_M_setSingle_25 : decode b_M_setSingle 25 = .ok (.bipush 16, 2) := by decide +kernel
theorem d_M_setSingle_27 : decode b_M_setSingle 27 = .ok (.iload_n 1, 1) := by decide +kernel
theorem d_M_setSingle_28 : decode b_M_setSingle 28 = .ok (.imul, 1) := by decide +kernel
theorem d_M_setSingle_29 : decode b_M_setSingle 29 = .ok (.iload_n 2, 1) := by decide +kernel
theorem d_M_setSingle_30 : decode b_M_setSingle 30 = .ok (.iastore, 1) := by decide +kernel
theorem d_M_setSingle_31 : decode b_M_setSingle 31 = .ok (.aload_n 0, 1) := by decide +kernel
theorem d_M_setSingle_32 : decode b_M_setSingle 32 = .ok (.getfield 26, 3) := by decide +kernel
theorem d_M_setSingle_35 : decode b_M_setSingle 35 = .ok (.bipush 16, 2) := by decide +kernel
theorem d_M_setSingle_37 : decode b_M_setSingle 37 = .ok (.iload_n 1, 1) := by decide +kernel
theorem d_M_setSingle_38 : decode b_M_setSingle 38 = .ok (.imul, 1) := by decide +kernel
theorem d_M_setSingle_39 : decode b_M_setSingle 39 = .ok (.dload_n 3, 1) := by decide +kernel
theorem d_M_setSingle_40 : decode b_M_setSingle 40 = .ok (.dconst 0, 1) := by decide +kernel
theorem d_M_setSingle_41 : decode b_M_setSingle 41 = .ok (.dcmp .l, 1) := by decide +kernel
theorem d_M_setSingle_42 : decode b_M_setSingle 42 = .ok (.ifCond .ne 7, 3) := by decide +kernel
theorem d_M_setSingle_45 : decode b_M_setSingle 45 = .ok (.dconst 0, 1) := by decide +kernel
theorem d_M_setSingle_46 : decode b_M_setSingle 46 = .ok (.goto 4, 3) := by decide +kernel
theorem d_M_setSingle_49 : decode b_M_setSingle 49 = .ok (.dload_n 3, 1) := by decide +kernel
theorem d_M_setSingle_50 : decode b_M_setSingle 50 = .ok (.dastore, 1) := by decide +kernel
theorem d_M_setSingle_51 : decode b_M_setSingle 51 = .ok (.aload_n 0, 1) := by decide +kernel
theorem d_M_setSingle_52 : decode b_M_setSingle 52 = .ok (.getfield 30, 3) := by decide +kernel
theorem d_M_setSingle_55 : decode b_M_setSingle 55 = .ok (.bipush 16, 2) := by decide +kernel
theorem d_M_setSingle_57 : decode b_M_setSingle 57 = .ok (.iload_n 1, 1) := by decide +kernel
theorem d_M_setSingle_58 : decode b_M_setSingle 58 = .ok (.imul, 1) := by decide +kernel
theorem d_M_setSingle_59 : decode b_M_setSingle 59 = .ok (.iconst 0, 1) := by decide +kernel
theorem d_M_setSingle_60 : decode b_M_setSingle 60 = .ok (.iastore, 1) := by decide +kernel
theorem d_M_setSingle_61 : decode b_M_setSingle 61 = .ok (.return_, 1) := by decide +kernel
theorem p_M_setSingle_b50 (d : Nat)  (v0 : Option Nat) (v1 : Int32) (s0 : Option Nat) (s1 : Int32) (s2 : UInt64) (h : gk_H) : gk_P gw_V d y_M_setSingle b_M_setSingle 5 none [] (f_M_setSingle_b50  v0 v1 s0 s1 s2 h) 50 [(0, va_rf v0), (1, .int v1)] [.double s2, .int s1, va_rf s0] h := by
  unfold f_M_setSingle_b50
  refine gk_dast (pc := 50) d_M_setSingle_50 fun h1 => ?_
  refine gk_aload_n (pc := 51) 0 d_M_setSingle_51 rfl ?_
  refine gk_getR (pc := 52) 7 9 d_M_setSingle_52 rfl (Nat.le_of_ble_eq_true rfl) tw_1654 fun x1 => ?_
  refine gk_bipush (pc := 55) (16 : Int32) d_M_setSingle_55 rfl ?_
  refine gk_iload_n (pc := 57) 1 d_M_setSingle_57 rfl ?_
  refine gk_imul (pc := 58) d_M_setSingle_58 ?_
  refine gk_iconst (pc := 59) (0 : Int32) d_M_setSingle_59 rfl ?_
  refine gk_iast (pc := 60) d_M_setSingle_60 fun h2 => ?_
  exact gk_vret (pc := 61) rfl d_M_setSingle_61 rfl
theorem w_M_setSingle (d : Nat) (a0 : Option Nat) (a1 : Int32) (a2 : Int32) (a3 : UInt64) (h : gk_H) : gk_P gw_V d y_M_setSingle b_M_setSingle 5 none [] (f_M_setSingle a0 a1 a2 a3 h) 0 [(0, va_rf a0), (1, .int a1), (2, .int a2), (3, .double a3)] [] h := by
  unfold f_M_setSingle
  refine gk_aload_n (pc := 0) 0 d_M_setSingle_0 rfl ?_
  refine gk_getR (pc := 1) 7 4 d_M_setSingle_1 rfl (Nat.le_of_ble_eq_true rfl) tw_1649 fun x1 => ?_
  refine gk_iload_n (pc := 4) 1 d_M_setSingle_4 rfl ?_
  refine gk_iload_n (pc := 5) 2 d_M_setSingle_5 rfl ?_
  refine gk_iast (pc := 6) d_M_setSingle_6 fun h1 => ?_
  refine gk_aload_n (pc := 7) 0 d_M_setSingle_7 rfl ?_
  refine gk_getR (pc := 8) 7 5 d_M_setSingle_8 rfl (Nat.le_of_ble_eq_true rfl) tw_1650 fun x2 => ?_
  refine gk_iload_n (pc := 11) 1 d_M_setSingle_11 rfl ?_
  refine gk_iconst (pc := 12) (1 : Int32) d_M_setSingle_12 rfl ?_
  refine gk_iast (pc := 13) d_M_setSingle_13 fun h2 => ?_
  refine gk_aload_n (pc := 14) 0 d_M_setSingle_14 rfl ?_
  refine gk_getR (pc := 15) 7 6 d_M_setSingle_15 rfl (Nat.le_of_ble_eq_true rfl) tw_1651 fun x3 => ?_
  refine gk_iload_n (pc := 18) 1 d_M_setSingle_18 rfl ?_
  refine gk_iconst (pc := 19) (1 : Int32) d_M_setSingle_19 rfl ?_
  refine gk_iast (pc := 20) d_M_setSingle_20 fun h3 => ?_
  refine gk_aload_n (pc := 21) 0 d_M_setSingle_21 rfl ?_
  refine gk_getR (pc := 22) 7 7 d_M_setSingle_22 rfl (Nat.le_of_ble_eq_true rfl) tw_1652 fun x4 => ?_
  refine gk_bipush (pc := 25) (16 : Int32) d_M_setSingle_25 rfl ?_
  refine gk_iload_n (pc := 27) 1 d_M_setSingle_27 rfl ?_
  refine gk_imul (pc := 28) d_M_setSingle_28 ?_
  refine gk_iload_n (pc := 29) 2 d_M_setSingle_29 rfl ?_
  refine gk_iast (pc := 30) d_M_setSingle_30 fun h4 => ?_
  refine gk_aload_n (pc := 31) 0 d_M_setSingle_31 rfl ?_
  refine gk_getR (pc := 32) 7 8 d_M_setSingle_32 rfl (Nat.le_of_ble_eq_true rfl) tw_1653 fun x5 => ?_
  refine gk_bipush (pc := 35) (16 : Int32) d_M_setSingle_35 rfl ?_
  refine gk_iload_n (pc := 37) 1 d_M_setSingle_37 rfl ?_
  refine gk_imul (pc := 38) d_M_setSingle_38 ?_
  refine gk_dload_n (pc := 39) 3 d_M_setSingle_39 rfl ?_
  refine gk_dconst0 (pc := 40) d_M_setSingle_40 ?_
  refine gk_dcmp (pc := 41) d_M_setSingle_41 ?_
  refine gk_if_ne (pc := 42) 49 d_M_setSingle_42 rfl (fun _ => ?_) (fun _ => ?_)
  · refine gk_dconst0 (pc := 45) d_M_setSingle_45 ?_
    refine gk_goto (pc := 46) 50 d_M_setSingle_46 rfl ?_
    refine gk_weak [0, 1] (L' := [(0, va_rf a0), (1, .int a1)]) rfl ?_
    exact p_M_setSingle_b50 d a0 a1 x5 ((16 : Int32) * a1) (0x0000000000000000) h4
  · refine gk_dload_n (pc := 49) 3 d_M_setSingle_49 rfl ?_
    refine gk_weak [0, 1] (L' := [(0, va_rf a0), (1, .int a1)]) rfl ?_
    exact p_M_setSingle_b50 d a0 a1 x5 ((16 : Int32) * a1) a3 h4
theorem p_M_setSingle (d : Nat) (a0 : Option Nat) (a1 : Int32) (a2 : Int32) (a3 : UInt64) (h : gk_H) : ∀ r h1, f_M_setSingle a0 a1 a2 a3 h = some (r, h1) → gk_M d y_M_setSingle b_M_setSingle 5 none [va_rf a0, .int a1, .int a2, .double a3] h (.inl (gv_V r)) h1 :=
  fun r h1 e => gk_M_of2 (by decide +kernel) (by simp [lv_args, gk_cat_rf, gk_catI, gk_catJ, gk_catD, gv_V, gv_I, gv_J, gv_D, gv_R]) (by simp [lg_sl, gk_cat_rf, gk_catI, gk_catJ, gk_catD, gv_V, gv_I, gv_J, gv_D, gv_R]) (w_M_setSingle d a0 a1 a2 a3 h r h1 e)
theorem d_M_number_0 : decode b_M_number 0 = .ok (.aload_n 0, 1) := by decide +kernel
theorem d_M_number_1 : decode b_M_number 1 = .ok (.aload_n 0, 1) := by decide +kernel
theorem d_M_number_2 : decode b_M_number 2 = .ok (.iconst 1, 1) := by decide +kernel
theorem d_M_number_3 : decode b_M_number 3 = .ok (.invokevirtual 72, 3) := by decide +kernel
theorem d_M_number_6 : decode b_M_number 6 = .ok (.ifCond .eq 7, 3) := by decide +kernel
theorem d_M_number_9 : decode b_M_number 9 = .ok (.iconst 1, 1) := by decide +kernel
theorem d_M_number_10 : decode b_M_number 10 = .ok (.goto 4, 3) := by decide +kernel
theorem d_M_number_13 : decode b_M_number 13 = .ok (.iconst 0, 1) := by decide +kernel
theorem d_M_number_14 : decode b_M_number 14 = .ok (.putfield 46, 3) := by decide +kernel
theorem d_M_number_17 : decode b_M_number 17 = .ok (.aload_n 0, 1) := by decide +kernel
theorem d_M_number_18 : decode b_M_number 18 = .ok (.getfield 46, 3) := by decide +kernel
theorem d_M_number_21 : decode b_M_number 21 = .ok (.ifCond .le 4, 3) := by decide +kernel
theorem d_M_number_24 : decode b_M_number 24 = .ok (.return_, 1) := by decide +kernel
theorem d_M_number_25 : decode b_M_number 25 = .ok (.aload_n 0, 1) := by decide +kernel
theorem d_M_number_26 : decode b_M_number 26 = .ok (.aload_n 0, 1) := by decide +kernel
theorem d_M_number_27 : decode b_M_number 27 = .ok (.getfield 69, 3) := by decide +kernel
theorem d_M_number_30 : decode b_M_number 30 = .ok (.iconst 1, 1) := by decide +kernel
theorem d_M_number_31 : decode b_M_number 31 = .ok (.dload_n 1, 1) := by decide +kernel
theorem d_M_number_32 : decode b_M_number 32 = .ok (.invokevirtual 76, 3) := by decide +kernel
theorem d_M_number_35 : decode b_M_number 35 = .ok (.aload_n 0, 1) := by decide +kernel
theorem d_M_number_36 : decode b_M_number 36 = .ok (.dup, 1) := by decide +kernel
theorem d_M_number_37 : decode b_M_number 37 = .ok (.getfield 69, 3) := by decide +kernel
theorem d_M_number_40 : decode b_M_number 40 = .ok (.iconst 1, 1) := by decide +kernel
theorem d_M_number_41 : decode b_M_number 41 = .ok (.iadd, 1) := by decide +kernel
theorem d_M_number_42 : decode b_M_number 42 = .ok (.putfield 69, 3) := by decide +kernel
theorem d_M_number_45 : decode b_M_number 45 = .ok (.return_, 1) := by decide +kernel
theorem p_M_number_b14 (d : Nat)  (v0 : Option Nat) (v1 : UInt64) (s0 : Option Nat) (s1 : Int32) (h : gk_H) : gk_P gw_V (d + 1) y_M_number b_M_number 3 none [] (f_M_number_b14  v0 v1 s0 s1 h) 14 [(0, va_rf v0), (1, .double v1)] [.int s1, va_rf s0] h := by
  unfold f_M_number_b14
  refine gk_putfield (pc := 14) 7 0 d_M_number_14 rfl (Nat.le_of_ble_eq_true rfl) tw_1645 (Or.inl rfl) fun h1 => ?_
  refine gk_aload_n (pc := 17) 0 d_M_number_17 rfl ?_
  refine gk_getI (pc := 18) 7 0 d_M_number_18 rfl (Nat.le_of_ble_eq_true rfl) tw_1645 fun x1 => ?_
  refine gk_if_le (pc := 21) 25 d_M_number_21 rfl (fun _ => ?_) (fun _ => ?_)
  · refine gk_aload_n (pc := 25) 0 d_M_number_25 rfl ?_
    refine gk_aload_n (pc := 26) 0 d_M_number_26 rfl ?_
    refine gk_getI (pc := 27) 7 3 d_M_number_27 rfl (Nat.le_of_ble_eq_true rfl) tw_1648 fun x2 => ?_
    refine gk_iconst (pc := 30) (1 : Int32) d_M_number_30 rfl ?_
    refine gk_dload_n (pc := 31) 1 d_M_number_31 rfl ?_
    refine gk_callV (pc := 32) (d := d) (w' := gv_V) (as := [.int x2, .int (1 : Int32), .double v1]) (n := 3) 7 d_M_number_32 rfl rfl rfl rfl (Nat.le_of_ble_eq_true rfl) tw_1733 tw_1735 tw_15 tw_99 cw_M_setSingle hy_M_setSingle (Nat.le_of_ble_eq_true rfl) (p_M_setSingle d v0 x2 (1 : Int32) v1 h1) fun _ h2 => ?_
    refine gk_aload_n (pc := 35) 0 d_M_number_35 rfl ?_
    refine gk_dup (pc := 36) d_M_number_36 (gk_cat_rf _) ?_
    refine gk_getI (pc := 37) 7 3 d_M_number_37 rfl (Nat.le_of_ble_eq_true rfl) tw_1648 fun x3 => ?_
    refine gk_iconst (pc := 40) (1 : Int32) d_M_number_40 rfl ?_
    refine gk_iadd (pc := 41) d_M_number_41 ?_
    refine gk_putfield (pc := 42) 7 3 d_M_number_42 rfl (Nat.le_of_ble_eq_true rfl) tw_1648 (Or.inl rfl) fun h3 => ?_
    exact gk_vret (pc := 45) rfl d_M_number_45 rfl
  · exact gk_vret (pc := 24) rfl d_M_number_24 rfl
theorem w_M_number (d : Nat) (a0 : Option Nat) (a1 : UInt64) (h : gk_H) : gk_P gw_V (d + 1) y_M_number b_M_number 3 none [] (f_M_number a0 a1 h) 0 [(0, va_rf a0), (1, .double a1)] [] h := by
  unfold f_M_number
  refine gk_aload_n (pc := 0) 0 d_M_number_0 rfl ?_
  refine gk_aload_n (pc := 1) 0 d_M_number_1 rfl ?_
  refine gk_iconst (pc := 2) (1 : Int32) d_M_number_2 rfl ?_
  refine gk_callV (pc := 3) (d := d) (w' := gv_I) (as := [.int (1 : Int32)]) (n := 1) 7 d_M_number_3 rfl rfl rfl rfl (by simp [gk_cat_rf, gk_catI, gk_catJ, gk_catD, gv_V, gv_I, gv_J, gv_D, gv_R]) tw_1729 tw_1731 tw_14 tw_99 cw_M_isFull hy_M_isFull (Nat.le_of_ble_eq_true rfl) (p_M_isFull d a0 (1 : Int32) h) fun x1 h1 => ?_
  refine gk_if_eq (pc := 6) 13 d_M_number_6 rfl (fun _ => ?_) (fun _ => ?_)
  · refine gk_iconst (pc := 13) (0 : Int32) d_M_number_13 rfl ?_
    exact p_M_number_b14 d a0 a1 a0 (0 : Int32) h1
  · refine gk_iconst (pc := 9) (1 : Int32) d_M_number_9 rfl ?_
    refine gk_goto (pc := 10) 14 d_M_number_10 rfl ?_
    exact p_M_number_b14 d a0 a1 a0 (1 : Int32) h1
theorem p_M_number (d : Nat) (a0 : Option Nat) (a1 : UInt64) (h : gk_H) : ∀ r h1, f_M_number a0 a1 h = some (r, h1) → gk_M (d + 1) y_M_number b_M_number 3 none [va_rf a0, .double a1] h (.inl (gv_V r)) h1 :=
  fun r h1 e => gk_M_of2 (by decide +kernel) (by simp [lv_args, gk_cat_rf, gk_catI, gk_catJ, gk_catD, gv_V, gv_I, gv_J, gv_D, gv_R]) (by simp [lg_sl, gk_cat_rf, gk_catI, gk_catJ, gk_catD, gv_V, gv_I, gv_J, gv_D, gv_R]) (w_M_number d a0 a1 h r h1 e)
theorem d_M_type_0 : decode b_M_type 0 = .ok (.iconst 0, 1) := by decide +kernel
theorem d_M_type_1 : decode b_M_type 1 = .ok (.istore_n 2, 1) := by decide +kernel
theorem d_M_type_2 : decode b_M_type 2 = .ok (.iconst 0, 1) := by decide +kernel
theorem d_M_type_3 : decode b_M_type 3 = .ok (.istore_n 3, 1) := by decide +kernel
theorem d_M_type_4 : decode b_M_type 4 = .ok (.iconst 0, 1) := by decide +kernel
theorem d_M_type_5 : decode b_M_type 5 = .ok (.istore 4, 2) := by decide +kernel
theorem d_M_type_7 : decode b_M_type 7 = .ok (.iload 4, 2) := by decide +kernel
theorem d_M_type_9 : decode b_M_type 9 = .ok (.iconst 4, 1) := by decide +kernel
theorem d_M_type_10 : decode b_M_type 10 = .ok (.if_icmp .ge 67, 3) := by decide +kernel
theorem d_M_type_13 : decode b_M_type 13 = .ok (.iload_n 1, 1) := by decide +kernel
theorem d_M_type_14 : decode b_M_type 14 = .ok (.bipush 24, 2) := by decide +kernel
theorem d_M_type_16 : decode b_M_type 16 = .ok (.bipush 8, 2) := by decide +kernel
theorem d_M_type_18 : decode b_M_type 18 = .ok (.iload 4, 2) := by decide +kernel
theorem d_M_type_20 : decode b_M_type 20 = .ok (.imul, 1) := by decide +kernel
theorem d_M_type_21 : decode b_M_type 21 = .ok (.isub, 1) := by decide +kernel
theorem d_M_type_22 : decode b_M_type 22 = .ok (.ishr, 1) := by decide +kernel
theorem d_M_type_23 : decode b_M_type 23 = .ok (.sipush 255, 3) := by decide +kernel
theorem d_M_type_26 : decode b_M_type 26 = .ok (.iand, 1) := by decide +kernel
theorem d_M_type_27 : decode b_M_type 27 = .ok (.istore 5, 2) := by decide +kernel
theorem d_M_type_29 : decode b_M_type 29 = .ok (.iload 5, 2) := by decide +kernel
theorem d_M_type_31 : decode b_M_type 31 = .ok (.ifCond .le 9, 3) := by decide +kernel
theorem d_M_type_34 : decode b_M_type 34 = .ok (.iload_n 2, 1) := by decide +kernel
theorem d_M_type_35 : decode b_M_type 35 = .ok (.iconst 1, 1) := by decide +kernel
theorem d_M_type_36 : decode b_M_type 36 = .ok (.iadd, 1) := by decide +kernel
theorem d_M_type_37 : decode b_M_type 37 = .ok (.goto 4, 3) := by decide +kernel
theorem d_M_type_40 : decode b_M_type 40 = .ok (.iload_n 2, 1) := by decide +kernel
theorem d_M_type_41 : decode b_M_type 41 = .ok (.istore_n 2, 1) := by decide +kernel
theorem d_M_type_42 : decode b_M_type 42 = .ok (.iload_n 3, 1) := by decide +kernel
theorem d_M_type_43 : decode b_M_type 43 = .ok (.ifCond .ne 22, 3) := by decide +kernel
theorem d_M_type_46 : decode b_M_type 46 = .ok (.iload 5, 2) := by decide +kernel
theorem d_M_type_48 : decode b_M_type 48 = .ok (.ifCond .le 21, 3) := by decide +kernel
theorem d_M_type_51 : decode b_M_type 51 = .ok (.iload 5, 2) := by decide +kernel
theorem d_M_type_53 : decode b_M_type 53 = .ok (.bipush 32, 2) := by decide +kernel
theorem d_M_type_55 : decode b_M_type 55 = .ok (.if_icmp .lt 10, 3) := by decide +kernel
theorem d_M_type_58 : decode b_M_type 58 = .ok (.iload 5, 2) := by decide +kernel
theorem d_M_type_60 : decode b_M_type 60 = .ok (.bipush 126, 2) := by decide +kernel
theorem d_M_type_62 : decode b_M_type 62 = .ok (.if_icmp .le 7, 3) := by decide +kernel
theorem d_M_type_65 : decode b_M_type 65 = .ok (.iconst 1, 1) := by decide +kernel
theorem d_M_type_66 : decode b_M_type 66 = .ok (.goto 4, 3) := by decide +kernel
theorem d_M_type_69 : decode b_M_type 69 = .ok (.iconst 0, 1) := by decide +kernel
theorem d_M_type_70 : decode b_M_type 70 = .ok (.istore_n 3, 1) := by decide +kernel
theorem d_M_type_71 : decode b_M_type 71 = .ok (.iinc 4 1, 3) := by decide +kernel
theorem d_M_type_74 : decode b_M_type 74 = .ok (.goto (-67), 3) := by decide +kernel
theorem d_M_type_77 : decode b_M_type 77 = .ok (.aload_n 0, 1) := by decide +kernel
theorem d_M_type_78 : decode b_M_type 78 = .ok (.iload_n 3, 1) := by decide +kernel
theorem d_M_type_79 : decode b_M_type 79 = .ok (.ifCond .eq 7, 3) := by decide +kernel
theorem d_M_type_82 : decode b_M_type 82 = .ok (.iconst 1, 1) := by decide +kernel
theorem d_M_type_83 : decode b_M_type 83 = .ok (.goto 20, 3) := by decide +kernel
theorem d_M_type_86 : decode b_M_type 86 = .ok (.aload_n 0, 1) := by decide +kernel
theorem d_M_type_87 : decode b_M_type 87 = .ok (.getfield 80, 3) := by decide +kernel
theorem d_M_type_90 : decode b_M_type 90 = .ok (.iload_n 2, 1) := by decide +kernel
theorem d_M_type_91 : decode b_M_type 91 = .ok (.iadd, 1) := by decide +kernel
theorem d_M_type_92 : decode b_M_type 92 = .ok (.sipush 255, 3) := by decide +kernel
theorem d_M_type_95 : decode b_M_type 95 = .ok (.if_icmp .le 7, 3) := by decide +kernel
theorem d_M_type_98 : decode b_M_type 98 = .ok (.iconst 2, 1) := by decide +kernel
theorem d_M_type_99 : decode b_M_type 99 = .ok (.goto 4, 3) := by decide +kernel
theorem d_M_type_102 : decode b_M_type 102 = .ok (.iconst 0, 1) := by decide +kernel
theorem d_M_type_103 : decode b_M_type 103 = .ok (.putfield 46, 3) := by decide +kernel
theorem d_M_type_106 : decode b_M_type 106 = .ok (.aload_n 0, 1) := by decide +kernel
theorem d_M_type_107 : decode b_M_type 107 = .ok (.getfield 46, 3) := by decide +kernel
theorem d_M_type_110 : decode b_M_type 110 = .ok (.ifCond .le 5, 3) := by decide +kernel
theorem d_M_type_113 : decode b_M_type 113 = .ok (.iconst 0, 1) := by decide +kernel
theorem d_M_type_114 : decode b_M_type 114 = .ok (.ireturn, 1) := by decide +kernel
theorem d_M_type_115 : decode b_M_type 115 = .ok (.iconst 0, 1) := by decide +kernel
theorem d_M_type_116 : decode b_M_type 116 = .ok (.istore 4, 2) := by decide +kernel
theorem d_M_type_118 : decode b_M_type 118 = .ok (.iload 4, 2) := by decide +kernel
theorem d_M_type_120 : decode b_M_type 120 = .ok (.iconst 4, 1) := by decide +kernel
theorem d_M_type_121 : decode b_M_type 121 = .ok (.if_icmp .ge 52, 3) := by decide +kernel
theorem d_M_type_124 : decode b_M_type 124 = .ok (.iload_n 1, 1) := by decide +kernel
theorem d_M_type_125 : decode b_M_type 125 = .ok (.bipush 24, 2) := by decide +kernel
theorem d_M_type_127 : decode b_M_type 127 = .ok (.bipush 8, 2) := by decide +kernel
theorem d_M_type_129 : decode b_M_type 129 = .ok (.iload 4, 2) := by decide +kernel
theorem d_M_type_131 : decode b_M_type 131 = .ok (.imul, 1) := by decide +kernel
theorem d_M_type_132 : decode b_M_type 132 = .ok (.isub, 1) := by decide +kernel
theorem d_M_type_133 : decode b_M_type 133 = .ok (.ishr, 1) := by decide +kernel
theorem d_M_type_134 : decode b_M_type 134 = .ok (.sipush 255, 3) := by decide +kernel
theorem d_M_type_137 : decode b_M_type 137 = .ok (.iand, 1) := by decide +kernel
theorem d_M_type_138 : decode b_M_type 138 = .ok (.istore 5, 2) := by decide +kernel
theorem d_M_type_140 : decode b_M_type 140 = .ok (.iload 5, 2) := by decide +kernel
theorem d_M_type_142 : decode b_M_type 142 = .ok (.ifCond .le 25, 3) := by decide +kernel
theorem d_M_type_145 : decode b_M_type 145 = .ok (.aload_n 0, 1) := by decide +kernel
theorem d_M_type_146 : decode b_M_type 146 = .ok (.getfield 7, 3) := by decide +kernel
theorem d_M_type_149 : decode b_M_type 149 = .ok (.aload_n 0, 1) := by decide +kernel
theorem d_M_type_150 : decode b_M_type 150 = .ok (.getfield 80, 3) := by decide +kernel
theorem d_M_type_153 : decode b_M_type 153 = .ok (.iload 5, 2) := by decide +kernel
theorem d_M_type_155 : decode b_M_type 155 = .ok (.i2b, 1) := by decide +kernel
theorem d_M_type_156 : decode b_M_type 156 = .ok (.bastore, 1) := by decide +kernel
theorem d_M_type_157 : decode b_M_type 157 = .ok (.aload_n 0, 1) := by decide +kernel
theorem d_M_type_158 : decode b_M_type 158 = .ok (.dup, 1) := by decide +kernel
theorem d_M_type_159 : decode b_M_type 159 = .ok (.getfield 80, 3) := by decide +kernel
theorem d_M_type_162 : decode b_M_type 162 = .ok (.iconst 1, 1) := by decide +kernel
theorem d_M_type_163 : decode b_M_type 163 = .ok (.iadd, 1) := by decide +kernel
theorem d_M_type_164 : decode b_M_type 164 = .ok (.putfield 80, 3) := by decide +kernel
theorem d_M_type_167 : decode b_M_type 167 = .ok (.iinc 4 1, 3) := by decide +kernel
theorem d_M_type_170 : decode b_M_type 170 = .ok (.goto (-52), 3) := by decide +kernel
theorem d_M_type_173 : decode b_M_type 173 = .ok (.aload_n 0, 1) := by decide +kernel
theorem d_M_type_174 : decode b_M_type 174 = .ok (.getfield 80, 3) := by decide +kernel
theorem d_M_type_177 : decode b_M_type 177 = .ok (.ireturn, 1) := by decide +kernel
theorem p_M_type_b167 (d : Nat) (b118 : Option Nat → Int32 → Int32 → gk_H → Option (Int32 × gk_H)) (q118 : ∀ (v0 : Option Nat) (v1 : Int32) (v4 : Int32) (h : gk_H), gk_P gw_I d y_M_type b_M_type 6 (some .int) [] (b118 v0 v1 v4 h) 118 [(0, va_rf v0), (1, .int v1), (4, .int v4)] [] h) (v0 : Option Nat) (v1 : Int32) (v4 : Int32) (h : gk_H) : gk_P gw_I d y_M_type b_M_type 6 (some .int) [] (f_M_type_b167 b118 v0 v1 v4 h) 167 [(0, va_rf v0), (1, .int v1), (4, .int v4)] [] h := by
  unfold f_M_type_b167
  refine gk_iincN (pc := 167) 2 (1 : Int32) (L' := fun x1 => [(4, .int x1), (0, va_rf v0), (1, .int v1)]) d_M_type_167 rfl rfl (Nat.le_of_ble_eq_true rfl) (fun _ => rfl) fun x1 => ?_
  refine gk_goto (pc := 170) 118 d_M_type_170 rfl ?_
  refine gk_weak [1, 2, 0] (L' := [(0, va_rf v0), (1, .int v1), (4, .int x1)]) rfl ?_
  exact q118 v0 v1 x1 h
theorem p_M_type_b118 (d : Nat)  : ∀ (fu : Nat) (v0 : Option Nat) (v1 : Int32) (v4 : Int32) (h : gk_H), gk_P gw_I d y_M_type b_M_type 6 (some .int) [] (f_M_type_b118  fu v0 v1 v4 h) 118 [(0, va_rf v0), (1, .int v1), (4, .int v4)] [] h := by
  intro fu
  induction fu with
  | zero => intros; exact gk_none
  | succ fu q118 =>
    intro v0 v1 v4 h
    rw [f_M_type_b118]
    refine gk_iload (pc := 118) 2 d_M_type_118 rfl ?_
    refine gk_iconst (pc := 120) (4 : Int32) d_M_type_120 rfl ?_
    refine gk_icmp_ge (pc := 121) 173 d_M_type_121 rfl (fun _ => ?_) (fun _ => ?_)
    · refine gk_aload_n (pc := 173) 0 d_M_type_173 rfl ?_
      refine gk_getI (pc := 174) 7 1 d_M_type_174 rfl (Nat.le_of_ble_eq_true rfl) tw_1646 fun x1 => ?_
      exact gk_iret (pc := 177) rfl d_M_type_177 rfl
    · refine gk_iload_n (pc := 124) 1 d_M_type_124 rfl ?_
      refine gk_bipush (pc := 125) (24 : Int32) d_M_type_125 rfl ?_
      refine gk_bipush (pc := 127) (8 : Int32) d_M_type_127 rfl ?_
      refine gk_iload (pc := 129) 2 d_M_type_129 rfl ?_
      refine gk_imul (pc := 131) d_M_type_131 ?_
      refine gk_isub (pc := 132) d_M_type_132 ?_
      refine gk_ishr (pc := 133) d_M_type_133 ?_
      refine gk_sipush (pc := 134) (255 : Int32) d_M_type_134 rfl ?_
      refine gk_iand (pc := 137) d_M_type_137 ?_
      refine gk_topI (pc := 138) fun x2 => ?_
      refine gk_istore (pc := 138) (L' := [(5, .int x2), (0, va_rf v0), (1, .int v1), (4, .int v4)]) d_M_type_138 (Nat.le_of_ble_eq_true rfl) rfl ?_
      refine gk_iload (pc := 140) 0 d_M_type_140 rfl ?_
      refine gk_if_le (pc := 142) 167 d_M_type_142 rfl (fun _ => ?_) (fun _ => ?_)
      · refine gk_weak [1, 2, 3] (L' := [(0, va_rf v0), (1, .int v1), (4, .int v4)]) rfl ?_
        exact p_M_type_b167 d (f_M_type_b118 fu) q118 v0 v1 v4 h
      · refine gk_aload_n (pc := 145) 1 d_M_type_145 rfl ?_
        refine gk_getR (pc := 146) 7 2 d_M_type_146 rfl (Nat.le_of_ble_eq_true rfl) tw_1647 fun x3 => ?_
        refine gk_aload_n (pc := 149) 1 d_M_type_149 rfl ?_
        refine gk_getI (pc := 150) 7 1 d_M_type_150 rfl (Nat.le_of_ble_eq_true rfl) tw_1646 fun x4 => ?_
        refine gk_iload (pc := 153) 0 d_M_type_153 rfl ?_
        refine gk_i2b (pc := 155) d_M_type_155 ?_
        refine gk_bast (pc := 156) d_M_type_156 fun h1 => ?_
        refine gk_aload_n (pc := 157) 1 d_M_type_157 rfl ?_
        refine gk_dup (pc := 158) d_M_type_158 (gk_cat_rf _) ?_
        refine gk_getI (pc := 159) 7 1 d_M_type_159 rfl (Nat.le_of_ble_eq_true rfl) tw_1646 fun x5 => ?_
        refine gk_iconst (pc := 162) (1 : Int32) d_M_type_162 rfl ?_
        refine gk_iadd (pc := 163) d_M_type_163 ?_
        refine gk_putfield (pc := 164) 7 1 d_M_type_164 rfl (Nat.le_of_ble_eq_true rfl) tw_1646 (Or.inl rfl) fun h2 => ?_
        refine gk_weak [1, 2, 3] (L' := [(0, va_rf v0), (1, .int v1), (4, .int v4)]) rfl ?_
        exact p_M_type_b167 d (f_M_type_b118 fu) q118 v0 v1 v4 h2
theorem p_M_type_b103 (d : Nat)  (v0 : Option Nat) (v1 : Int32) (s0 : Option Nat) (s1 : Int32) (h : gk_H) : gk_P gw_I d y_M_type b_M_type 6 (some .int) [] (f_M_type_b103  v0 v1 s0 s1 h) 103 [(0, va_rf v0), (1, .int v1)] [.int s1, va_rf s0] h := by
  unfold f_M_type_b103
  refine gk_putfield (pc := 103) 7 0 d_M_type_103 rfl (Nat.le_of_ble_eq_true rfl) tw_1645 (Or.inl rfl) fun h1 => ?_
  refine gk_aload_n (pc := 106) 0 d_M_type_106 rfl ?_
  refine gk_getI (pc := 107) 7 0 d_M_type_107 rfl (Nat.le_of_ble_eq_true rfl) tw_1645 fun x1 => ?_
  refine gk_if_le (pc := 110) 115 d_M_type_110 rfl (fun _ => ?_) (fun _ => ?_)
  · refine gk_iconst (pc := 115) (0 : Int32) d_M_type_115 rfl ?_
    refine gk_istore (pc := 116) (L' := [(4, .int (0 : Int32)), (0, va_rf v0), (1, .int v1)]) d_M_type_116 (Nat.le_of_ble_eq_true rfl) rfl ?_
    refine gk_weak [1, 2, 0] (L' := [(0, va_rf v0), (1, .int v1), (4, .int (0 : Int32))]) rfl ?_
    exact p_M_type_b118 d gk_F v0 v1 (0 : Int32) h1
  · refine gk_iconst (pc := 113) (0 : Int32) d_M_type_113 rfl ?_
    exact gk_iret (pc := 114) rfl d_M_type_114 rfl
theorem p_M_type_b70 (d : Nat) (b7 : Option Nat → Int32 → Int32 → Int32 → Int32 → gk_H → Option (Int32 × gk_H)) (q7 : ∀ (v0 : Option Nat) (v1 : Int32) (v2 : Int32) (v3 : Int32) (v4 : Int32) (h : gk_H), gk_P gw_I d y_M_type b_M_type 6 (some .int) [] (b7 v0 v1 v2 v3 v4 h) 7 [(0, va_rf v0), (1, .int v1), (2, .int v2), (3, .int v3), (4, .int v4)] [] h) (v0 : Option Nat) (v1 : Int32) (v2 : Int32) (v4 : Int32) (s0 : Int32) (h : gk_H) : gk_P gw_I d y_M_type b_M_type 6 (some .int) [] (f_M_type_b70 b7 v0 v1 v2 v4 s0 h) 70 [(0, va_rf v0), (1, .int v1), (2, .int v2), (4, .int v4)] [.int s0] h := by
  unfold f_M_type_b70
  refine gk_istore_n (pc := 70) (L' := [(3, .int s0), (0, va_rf v0), (1, .int v1), (2, .int v2), (4, .int v4)]) d_M_type_70 (Nat.le_of_ble_eq_true rfl) rfl ?_
  refine gk_iincN (pc := 71) 4 (1 : Int32) (L' := fun x1 => [(4, .int x1), (3, .int s0), (0, va_rf v0), (1, .int v1), (2, .int v2)]) d_M_type_71 rfl rfl (Nat.le_of_ble_eq_true rfl) (fun _ => rfl) fun x1 => ?_
  refine gk_goto (pc := 74) 7 d_M_type_74 rfl ?_
  refine gk_weak [2, 3, 4, 1, 0] (L' := [(0, va_rf v0), (1, .int v1), (2, .int v2), (3, .int s0), (4, .int x1)]) rfl ?_
  exact q7 v0 v1 v2 s0 x1 h
theorem p_M_type_b65 (d : Nat) (b7 : Option Nat → Int32 → Int32 → Int32 → Int32 → gk_H → Option (Int32 × gk_H)) (q7 : ∀ (v0 : Option Nat) (v1 : Int32) (v2 : Int32) (v3 : Int32) (v4 : Int32) (h : gk_H), gk_P gw_I d y_M_type b_M_type 6 (some .int) [] (b7 v0 v1 v2 v3 v4 h) 7 [(0, va_rf v0), (1, .int v1), (2, .int v2), (3, .int v3), (4, .int v4)] [] h) (v0 : Option Nat) (v1 : Int32) (v2 : Int32) (v4 : Int32) (h : gk_H) : gk_P gw_I d y_M_type b_M_type 6 (some .int) [] (f_M_type_b65 b7 v0 v1 v2 v4 h) 65 [(0, va_rf v0), (1, .int v1), (2, .int v2), (4, .int v4)] [] h := by
  unfold f_M_type_b65
  refine gk_iconst (pc := 65) (1 : Int32) d_M_type_65 rfl ?_
  refine gk_goto (pc := 66) 70 d_M_type_66 rfl ?_
  exact p_M_type_b70 d b7 q7 v0 v1 v2 v4 (1 : Int32) h
theorem p_M_type_b69 (d : Nat) (b7 : Option Nat → Int32 → Int32 → Int32 → Int32 → gk_H → Option (Int32 × gk_H)) (q7 : ∀ (v0 : Option Nat) (v1 : Int32) (v2 : Int32) (v3 : Int32) (v4 : Int32) (h : gk_H), gk_P gw_I d y_M_type b_M_type 6 (some .int) [] (b7 v0 v1 v2 v3 v4 h) 7 [(0, va_rf v0), (1, .int v1), (2, .int v2), (3, .int v3), (4, .int v4)] [] h) (v0 : Option Nat) (v1 : Int32) (v2 : Int32) (v4 : Int32) (h : gk_H) : gk_P gw_I d y_M_type b_M_type 6 (some .int) [] (f_M_type_b69 b7 v0 v1 v2 v4 h) 69 [(0, va_rf v0), (1, .int v1), (2, .int v2), (4, .int v4)] [] h := by
  unfold f_M_type_b69
  refine gk_iconst (pc := 69) (0 : Int32) d_M_type_69 rfl ?_
  exact p_M_type_b70 d b7 q7 v0 v1 v2 v4 (0 : Int32) h
theorem p_M_type_b41 (d : Nat) (b7 : Option Nat → Int32 → Int32 → Int32 → Int32 → gk_H → Option (Int32 × gk_H)) (q7 : ∀ (v0 : Option Nat) (v1 : Int32) (v2 : Int32) (v3 : Int32) (v4 : Int32) (h : gk_H), gk_P gw_I d y_M_type b_M_type 6 (some .int) [] (b7 v0 v1 v2 v3 v4 h) 7 [(0, va_rf v0), (1, .int v1), (2, .int v2), (3, .int v3), (4, .int v4)] [] h) (v0 : Option Nat) (v1 : Int32) (v3 : Int32) (v4 : Int32) (v5 : Int32) (s0 : Int32) (h : gk_H) : gk_P gw_I d y_M_type b_M_type 6 (some .int) [] (f_M_type_b41 b7 v0 v1 v3 v4 v5 s0 h) 41 [(0, va_rf v0), (1, .int v1), (3, .int v3), (4, .int v4), (5, .int v5)] [.int s0] h := by
  unfold f_M_type_b41
  refine gk_istore_n (pc := 41) (L' := [(2, .int s0), (0, va_rf v0), (1, .int v1), (3, .int v3), (4, .int v4), (5, .int v5)]) d_M_type_41 (Nat.le_of_ble_eq_true rfl) rfl ?_
  refine gk_iload_n (pc := 42) 3 d_M_type_42 rfl ?_
  refine gk_if_ne (pc := 43) 65 d_M_type_43 rfl (fun _ => ?_) (fun _ => ?_)
  · refine gk_iload (pc := 46) 5 d_M_type_46 rfl ?_
    refine gk_if_le (pc := 48) 69 d_M_type_48 rfl (fun _ => ?_) (fun _ => ?_)
    · refine gk_weak [1, 2, 0, 4] (L' := [(0, va_rf v0), (1, .int v1), (2, .int s0), (4, .int v4)]) rfl ?_
      exact p_M_type_b69 d b7 q7 v0 v1 s0 v4 h
    · refine gk_iload (pc := 51) 5 d_M_type_51 rfl ?_
      refine gk_bipush (pc := 53) (32 : Int32) d_M_type_53 rfl ?_
      refine gk_icmp_lt (pc := 55) 65 d_M_type_55 rfl (fun _ => ?_) (fun _ => ?_)
      · refine gk_weak [1, 2, 0, 4] (L' := [(0, va_rf v0), (1, .int v1), (2, .int s0), (4, .int v4)]) rfl ?_
        exact p_M_type_b65 d b7 q7 v0 v1 s0 v4 h
      · refine gk_iload (pc := 58) 5 d_M_type_58 rfl ?_
        refine gk_bipush (pc := 60) (126 : Int32) d_M_type_60 rfl ?_
        refine gk_icmp_le (pc := 62) 69 d_M_type_62 rfl (fun _ => ?_) (fun _ => ?_)
        · refine gk_weak [1, 2, 0, 4] (L' := [(0, va_rf v0), (1, .int v1), (2, .int s0), (4, .int v4)]) rfl ?_
          exact p_M_type_b69 d b7 q7 v0 v1 s0 v4 h
        · refine gk_weak [1, 2, 0, 4] (L' := [(0, va_rf v0), (1, .int v1), (2, .int s0), (4, .int v4)]) rfl ?_
          exact p_M_type_b65 d b7 q7 v0 v1 s0 v4 h
  · refine gk_weak [1, 2, 0, 4] (L' := [(0, va_rf v0), (1, .int v1), (2, .int s0), (4, .int v4)]) rfl ?_
    exact p_M_type_b65 d b7 q7 v0 v1 s0 v4 h
theorem p_M_type_b7 (d : Nat)  : ∀ (fu : Nat) (v0 : Option Nat) (v1 : Int32) (v2 : Int32) (v3 : Int32) (v4 : Int32) (h : gk_H), gk_P gw_I d y_M_type b_M_type 6 (some .int) [] (f_M_type_b7  fu v0 v1 v2 v3 v4 h) 7 [(0, va_rf v0), (1, .int v1), (2, .int v2), (3, .int v3), (4, .int v4)] [] h := by
  intro fu
  induction fu with
  | zero => intros; exact gk_none
  | succ fu q7 =>
    intro v0 v1 v2 v3 v4 h
    rw [f_M_type_b7]
    refine gk_iload (pc := 7) 4 d_M_type_7 rfl ?_
    refine gk_iconst (pc := 9) (4 : Int32) d_M_type_9 rfl ?_
    refine gk_icmp_ge (pc := 10) 77 d_M_type_10 rfl (fun _ => ?_) (fun _ => ?_)
    · refine gk_aload_n (pc := 77) 0 d_M_type_77 rfl ?_
      refine gk_iload_n (pc := 78) 3 d_M_type_78 rfl ?_
      refine gk_if_eq (pc := 79) 86 d_M_type_79 rfl (fun _ => ?_) (fun _ => ?_)
      · refine gk_aload_n (pc := 86) 0 d_M_type_86 rfl ?_
        refine gk_getI (pc := 87) 7 1 d_M_type_87 rfl (Nat.le_of_ble_eq_true rfl) tw_1646 fun x1 => ?_
        refine gk_iload_n (pc := 90) 2 d_M_type_90 rfl ?_
        refine gk_iadd (pc := 91) d_M_type_91 ?_
        refine gk_sipush (pc := 92) (255 : Int32) d_M_type_92 rfl ?_
        refine gk_icmp_le (pc := 95) 102 d_M_type_95 rfl (fun _ => ?_) (fun _ => ?_)
        · refine gk_iconst (pc := 102) (0 : Int32) d_M_type_102 rfl ?_
          refine gk_weak [0, 1] (L' := [(0, va_rf v0), (1, .int v1)]) rfl ?_
          exact p_M_type_b103 d v0 v1 v0 (0 : Int32) h
        · refine gk_iconst (pc := 98) (2 : Int32) d_M_type_98 rfl ?_
          refine gk_goto (pc := 99) 103 d_M_type_99 rfl ?_
          refine gk_weak [0, 1] (L' := [(0, va_rf v0), (1, .int v1)]) rfl ?_
          exact p_M_type_b103 d v0 v1 v0 (2 : Int32) h
      · refine gk_iconst (pc := 82) (1 : Int32) d_M_type_82 rfl ?_
        refine gk_goto (pc := 83) 103 d_M_type_83 rfl ?_
        refine gk_weak [0, 1] (L' := [(0, va_rf v0), (1, .int v1)]) rfl ?_
        exact p_M_type_b103 d v0 v1 v0 (1 : Int32) h
    · refine gk_iload_n (pc := 13) 1 d_M_type_13 rfl ?_
      refine gk_bipush (pc := 14) (24 : Int32) d_M_type_14 rfl ?_
      refine gk_bipush (pc := 16) (8 : Int32) d_M_type_16 rfl ?_
      refine gk_iload (pc := 18) 4 d_M_type_18 rfl ?_
      refine gk_imul (pc := 20) d_M_type_20 ?_
      refine gk_isub (pc := 21) d_M_type_21 ?_
      refine gk_ishr (pc := 22) d_M_type_22 ?_
      refine gk_sipush (pc := 23) (255 : Int32) d_M_type_23 rfl ?_
      refine gk_iand (pc := 26) d_M_type_26 ?_
      refine gk_topI (pc := 27) fun x2 => ?_
      refine gk_istore (pc := 27) (L' := [(5, .int x2), (0, va_rf v0), (1, .int v1), (2, .int v2), (3, .int v3), (4, .int v4)]) d_M_type_27 (Nat.le_of_ble_eq_true rfl) rfl ?_
      refine gk_iload (pc := 29) 0 d_M_type_29 rfl ?_
      refine gk_if_le (pc := 31) 40 d_M_type_31 rfl (fun _ => ?_) (fun _ => ?_)
      · refine gk_iload_n (pc := 40) 3 d_M_type_40 rfl ?_
        refine gk_weak [1, 2, 4, 5, 0] (L' := [(0, va_rf v0), (1, .int v1), (3, .int v3), (4, .int v4), (5, .int x2)]) rfl ?_
        exact p_M_type_b41 d (f_M_type_b7 fu) q7 v0 v1 v3 v4 x2 v2 h
      · refine gk_iload_n (pc := 34) 3 d_M_type_34 rfl ?_
        refine gk_iconst (pc := 35) (1 : Int32) d_M_type_35 rfl ?_
        refine gk_iadd (pc := 36) d_M_type_36 ?_
        refine gk_goto (pc := 37) 41 d_M_type_37 rfl ?_
        refine gk_weak [1, 2, 4, 5, 0] (L' := [(0, va_rf v0), (1, .int v1), (3, .int v3), (4, .int v4), (5, .int x2)]) rfl ?_
        exact p_M_type_b41 d (f_M_type_b7 fu) q7 v0 v1 v3 v4 x2 (v2 + (1 : Int32)) h
theorem w_M_type (d : Nat) (a0 : Option Nat) (a1 : Int32) (h : gk_H) : gk_P gw_I d y_M_type b_M_type 6 (some .int) [] (f_M_type a0 a1 h) 0 [(0, va_rf a0), (1, .int a1)] [] h := by
  unfold f_M_type
  refine gk_iconst (pc := 0) (0 : Int32) d_M_type_0 rfl ?_
  refine gk_istore_n (pc := 1) (L' := [(2, .int (0 : Int32)), (0, va_rf a0), (1, .int a1)]) d_M_type_1 (Nat.le_of_ble_eq_true rfl) rfl ?_
  refine gk_iconst (pc := 2) (0 : Int32) d_M_type_2 rfl ?_
  refine gk_istore_n (pc := 3) (L' := [(3, .int (0 : Int32)), (2, .int (0 : Int32)), (0, va_rf a0), (1, .int a1)]) d_M_type_3 (Nat.le_of_ble_eq_true rfl) rfl ?_
  refine gk_iconst (pc := 4) (0 : Int32) d_M_type_4 rfl ?_
  refine gk_istore (pc := 5) (L' := [(4, .int (0 : Int32)), (3, .int (0 : Int32)), (2, .int (0 : Int32)), (0, va_rf a0), (1, .int a1)]) d_M_type_5 (Nat.le_of_ble_eq_true rfl) rfl ?_
  refine gk_weak [3, 4, 2, 1, 0] (L' := [(0, va_rf a0), (1, .int a1), (2, .int (0 : Int32)), (3, .int (0 : Int32)), (4, .int (0 : Int32))]) rfl ?_
  exact p_M_type_b7 d gk_F a0 a1 (0 : Int32) (0 : Int32) (0 : Int32) h
theorem p_M_type (d : Nat) (a0 : Option Nat) (a1 : Int32) (h : gk_H) : ∀ r h1, f_M_type a0 a1 h = some (r, h1) → gk_M d y_M_type b_M_type 6 (some .int) [va_rf a0, .int a1] h (.inl (gv_I r)) h1 :=
  fun r h1 e => gk_M_of2 (by decide +kernel) (by simp [lv_args, gk_cat_rf, gk_catI, gk_catJ, gk_catD, gv_V, gv_I, gv_J, gv_D, gv_R]) (by simp [lg_sl, gk_cat_rf, gk_catI, gk_catJ, gk_catD, gv_V, gv_I, gv_J, gv_D, gv_R]) (w_M_type d a0 a1 h r h1 e)
theorem d_M_text_0 : decode b_M_text 0 = .ok (.aload_n 0, 1) := by decide +kernel
theorem d_M_text_1 : decode b_M_text 1 = .ok (.aload_n 0, 1) := by decide +kernel
theorem d_M_text_2 : decode b_M_text 2 = .ok (.iconst 1, 1) := by decide +kernel
theorem d_M_text_3 : decode b_M_text 3 = .ok (.invokevirtual 72, 3) := by decide +kernel
theorem d_M_text_6 : decode b_M_text 6 = .ok (.ifCond .eq 7, 3) := by decide +kernel
theorem d_M_text_9 : decode b_M_text 9 = .ok (.iconst 1, 1) := by decide +kernel
theorem d_M_text_10 : decode b_M_text 10 = .ok (.goto 4, 3) := by decide +kernel
theorem d_M_text_13 : decode b_M_text 13 = .ok (.iconst 0, 1) := by decide +kernel
theorem d_M_text_14 : decode b_M_text 14 = .ok (.putfield 46, 3) := by decide +kernel
theorem d_M_text_17 : decode b_M_text 17 = .ok (.aload_n 0, 1) := by decide +kernel
theorem d_M_text_18 : decode b_M_text 18 = .ok (.getfield 46, 3) := by decide +kernel
theorem d_M_text_21 : decode b_M_text 21 = .ok (.ifCond .le 4, 3) := by decide +kernel
theorem d_M_text_24 : decode b_M_text 24 = .ok (.return_, 1) := by decide +kernel
theorem d_M_text_25 : decode b_M_text 25 = .ok (.aload_n 0, 1) := by decide +kernel
theorem d_M_text_26 : decode b_M_text 26 = .ok (.aload_n 0, 1) := by decide +kernel
theorem d_M_text_27 : decode b_M_text 27 = .ok (.getfield 69, 3) := by decide +kernel
theorem d_M_text_30 : decode b_M_text 30 = .ok (.iconst 2, 1) := by decide +kernel
theorem d_M_text_31 : decode b_M_text 31 = .ok (.dconst 0, 1) := by decide +kernel
theorem d_M_text_32 : decode b_M_text 32 = .ok (.invokevirtual 76, 3) := by decide +kernel
theorem d_M_text_35 : decode b_M_text 35 = .ok (.aload_n 0, 1) := by decide +kernel
theorem d_M_text_36 : decode b_M_text 36 = .ok (.getfield 30, 3) := by decide +kernel
theorem d_M_text_39 : decode b_M_text 39 = .ok (.bipush 16, 2) := by decide +kernel
theorem d_M_text_41 : decode b_M_text 41 = .ok (.aload_n 0, 1) := by decide +kernel
theorem d_M_text_42 : decode b_M_text 42 = .ok (.getfield 69, 3) := by decide +kernel
theorem d_M_text_45 : decode b_M_text 45 = .ok (.imul, 1) := by decide +kernel
theorem d_M_text_46 : decode b_M_text 46 = .ok (.aload_n 0, 1) := by decide +kernel
theorem d_M_text_47 : decode b_M_text 47 = .ok (.getfield 80, 3) := by decide +kernel
theorem d_M_text_50 : decode b_M_text 50 = .ok (.iastore, 1) := by decide +kernel
theorem d_M_text_51 : decode b_M_text 51 = .ok (.iconst 0, 1) := by decide +kernel
theorem d_M_text_52 : decode b_M_text 52 = .ok (.istore_n 1, 1) := by decide +kernel
theorem d_M_text_53 : decode b_M_text 53 = .ok (.iload_n 1, 1) := by decide +kernel
theorem d_M_text_54 : decode b_M_text 54 = .ok (.aload_n 0, 1) := by decide +kernel
theorem d_M_text_55 : decode b_M_text 55 = .ok (.getfield 80, 3) := by decide +kernel
theorem d_M_text_58 : decode b_M_text 58 = .ok (.if_icmp .ge 30, 3) := by decide +kernel
theorem d_M_text_61 : decode b_M_text 61 = .ok (.aload_n 0, 1) := by decide +kernel
theorem d_M_text_62 : decode b_M_text 62 = .ok (.getfield 34, 3) := by decide +kernel
theorem d_M_text_65 : decode b_M_text 65 = .ok (.sipush 4096, 3) := by decide +kernel
theorem d_M_text_68 : decode b_M_text 68 = .ok (.aload_n 0, 1) := by decide +kernel
theorem d_M_text_69 : decode b_M_text 69 = .ok (.getfield 69, 3) := by decide +kernel
theorem d_M_text_72 : decode b_M_text 72 = .ok (.imul, 1) := by decide +kernel
theorem d_M_text_73 : decode b_M_text 73 = .ok (.iload_n 1, 1) := by decide +kernel
theorem d_M_text_74 : decode b_M_text 74 = .ok (.iadd, 1) := by decide +kernel
theorem d_M_text_75 : decode b_M_text 75 = .ok (.aload_n 0, 1) := by decide +kernel
theorem d_M_text_76 : decode b_M_text 76 = .ok (.getfield 7, 3) := by decide +kernel
theorem d_M_text_79 : decode b_M_text 79 = .ok (.iload_n 1, 1) := by decide +kernel
theorem d_M_text_80 : decode b_M_text 80 = .ok (.baload, 1) := by decide +kernel
theorem d_M_text_81 : decode b_M_text 81 = .ok (.bastore, 1) := by decide +kernel
theorem d_M_text_82 : decode b_M_text 82 = .ok (.iinc 1 1, 3) := by decide +kernel
theorem d_M_text_85 : decode b_M_text 85 = .ok (.goto (-32), 3) := by decide +kernel
theorem d_M_text_88 : decode b_M_text 88 = .ok (.aload_n 0, 1) := by decide +kernel
theorem d_M_text_89 : decode b_M_text 89 = .ok (.iconst 0, 1) := by decide +kernel
theorem d_M_text_90 : decode b_M_text 90 = .ok (.putfield 80, 3) := by decide +kernel
theorem d_M_text_93 : decode b_M_text 93 = .ok (.aload_n 0, 1) := by decide +kernel
theorem d_M_text_94 : decode b_M_text 94 = .ok (.dup, 1) := by decide +kernel
theorem d_M_text_95 : decode b_M_text 95 = .ok (.getfield 69, 3) := by decide +kernel
theorem d_M_text_98 : decode b_M_text 98 = .ok (.iconst 1, 1) := by decide +kernel
theorem d_M_text_99 : decode b_M_text 99 = .ok (.iadd, 1) := by decide +kernel
theorem d_M_text_100 : decode b_M_text 100 = .ok (.putfield 69, 3) := by decide +kernel
theorem d_M_text_103 : decode b_M_text 103 = .ok (.return_, 1) := by decide +kernel
theorem p_M_text_b53 (d : Nat)  : ∀ (fu : Nat) (v0 : Option Nat) (v1 : Int32) (h : gk_H), gk_P gw_V (d + 1) y_M_text b_M_text 2 none [] (f_M_text_b53  fu v0 v1 h) 53 [(0, va_rf v0), (1, .int v1)] [] h := by
  intro fu
  induction fu with
  | zero => intros; exact gk_none
  | succ fu q53 =>
    intro v0 v1 h
    rw [f_M_text_b53]
    refine gk_iload_n (pc := 53) 1 d_M_text_53 rfl ?_
    refine gk_aload_n (pc := 54) 0 d_M_text_54 rfl ?_
    refine gk_getI (pc := 55) 7 1 d_M_text_55 rfl (Nat.le_of_ble_eq_true rfl) tw_1646 fun x1 => ?_
    refine gk_icmp_ge (pc := 58) 88 d_M_text_58 rfl (fun _ => ?_) (fun _ => ?_)
    · refine gk_aload_n (pc := 88) 0 d_M_text_88 rfl ?_
      refine gk_iconst (pc := 89) (0 : Int32) d_M_text_89 rfl ?_
      refine gk_putfield (pc := 90) 7 1 d_M_text_90 rfl (Nat.le_of_ble_eq_true rfl) tw_1646 (Or.inl rfl) fun h1 => ?_
      refine gk_aload_n (pc := 93) 0 d_M_text_93 rfl ?_
      refine gk_dup (pc := 94) d_M_text_94 (gk_cat_rf _) ?_
      refine gk_getI (pc := 95) 7 3 d_M_text_95 rfl (Nat.le_of_ble_eq_true rfl) tw_1648 fun x2 => ?_
      refine gk_iconst (pc := 98) (1 : Int32) d_M_text_98 rfl ?_
      refine gk_iadd (pc := 99) d_M_text_99 ?_
      refine gk_putfield (pc := 100) 7 3 d_M_text_100 rfl (Nat.le_of_ble_eq_true rfl) tw_1648 (Or.inl rfl) fun h2 => ?_
      exact gk_vret (pc := 103) rfl d_M_text_103 rfl
    · refine gk_aload_n (pc := 61) 0 d_M_text_61 rfl ?_
      refine gk_getR (pc := 62) 7 10 d_M_text_62 rfl (Nat.le_of_ble_eq_true rfl) tw_1655 fun x3 => ?_
      refine gk_sipush (pc := 65) (4096 : Int32) d_M_text_65 rfl ?_
      refine gk_aload_n (pc := 68) 0 d_M_text_68 rfl ?_
      refine gk_getI (pc := 69) 7 3 d_M_text_69 rfl (Nat.le_of_ble_eq_true rfl) tw_1648 fun x4 => ?_
      refine gk_imul (pc := 72) d_M_text_72 ?_
      refine gk_iload_n (pc := 73) 1 d_M_text_73 rfl ?_
      refine gk_iadd (pc := 74) d_M_text_74 ?_
      refine gk_aload_n (pc := 75) 0 d_M_text_75 rfl ?_
      refine gk_getR (pc := 76) 7 2 d_M_text_76 rfl (Nat.le_of_ble_eq_true rfl) tw_1647 fun x5 => ?_
      refine gk_iload_n (pc := 79) 1 d_M_text_79 rfl ?_
      refine gk_bald (pc := 80) d_M_text_80 fun x6 => ?_
      refine gk_bast (pc := 81) d_M_text_81 fun h3 => ?_
      refine gk_iincN (pc := 82) 1 (1 : Int32) (L' := fun x7 => [(1, .int x7), (0, va_rf v0)]) d_M_text_82 rfl rfl (Nat.le_of_ble_eq_true rfl) (fun _ => by simp [gk_s1, gk_cat_rf, gk_catI, gk_catJ, gk_catD] <;> decide) fun x7 => ?_
      refine gk_goto (pc := 85) 53 d_M_text_85 rfl ?_
      refine gk_weak [1, 0] (L' := [(0, va_rf v0), (1, .int x7)]) rfl ?_
      exact q53 v0 x7 h3
theorem p_M_text_b14 (d : Nat)  (v0 : Option Nat) (s0 : Option Nat) (s1 : Int32) (h : gk_H) : gk_P gw_V (d + 1) y_M_text b_M_text 2 none [] (f_M_text_b14  v0 s0 s1 h) 14 [(0, va_rf v0)] [.int s1, va_rf s0] h := by
  unfold f_M_text_b14
  refine gk_putfield (pc := 14) 7 0 d_M_text_14 rfl (Nat.le_of_ble_eq_true rfl) tw_1645 (Or.inl rfl) fun h1 => ?_
  refine gk_aload_n (pc := 17) 0 d_M_text_17 rfl ?_
  refine gk_getI (pc := 18) 7 0 d_M_text_18 rfl (Nat.le_of_ble_eq_true rfl) tw_1645 fun x1 => ?_
  refine gk_if_le (pc := 21) 25 d_M_text_21 rfl (fun _ => ?_) (fun _ => ?_)
  · refine gk_aload_n (pc := 25) 0 d_M_text_25 rfl ?_
    refine gk_aload_n (pc := 26) 0 d_M_text_26 rfl ?_
    refine gk_getI (pc := 27) 7 3 d_M_text_27 rfl (Nat.le_of_ble_eq_true rfl) tw_1648 fun x2 => ?_
    refine gk_iconst (pc := 30) (2 : Int32) d_M_text_30 rfl ?_
    refine gk_dconst0 (pc := 31) d_M_text_31 ?_
    refine gk_callV (pc := 32) (d := d) (w' := gv_V) (as := [.int x2, .int (2 : Int32), .double (0x0000000000000000)]) (n := 3) 7 d_M_text_32 rfl rfl rfl rfl (Nat.le_of_ble_eq_true rfl) tw_1733 tw_1735 tw_15 tw_99 cw_M_setSingle hy_M_setSingle (Nat.le_of_ble_eq_true rfl) (p_M_setSingle d v0 x2 (2 : Int32) (0x0000000000000000) h1) fun _ h2 => ?_
    refine gk_aload_n (pc := 35) 0 d_M_text_35 rfl ?_
    refine gk_getR (pc := 36) 7 9 d_M_text_36 rfl (Nat.le_of_ble_eq_true rfl) tw_1654 fun x3 => ?_
    refine gk_bipush (pc := 39) (16 : Int32) d_M_text_39 rfl ?_
    refine gk_aload_n (pc := 41) 0 d_M_text_41 rfl ?_
    refine gk_getI (pc := 42) 7 3 d_M_text_42 rfl (Nat.le_of_ble_eq_true rfl) tw_1648 fun x4 => ?_
    refine gk_imul (pc := 45) d_M_text_45 ?_
    refine gk_aload_n (pc := 46) 0 d_M_text_46 rfl ?_
    refine gk_getI (pc := 47) 7 1 d_M_text_47 rfl (Nat.le_of_ble_eq_true rfl) tw_1646 fun x5 => ?_
    refine gk_iast (pc := 50) d_M_text_50 fun h3 => ?_
    refine gk_iconst (pc := 51) (0 : Int32) d_M_text_51 rfl ?_
    refine gk_istore_n (pc := 52) (L' := [(1, .int (0 : Int32)), (0, va_rf v0)]) d_M_text_52 (Nat.le_of_ble_eq_true rfl) (by simp [gk_s1, gk_s2, gk_cat_rf, gk_catI, gk_catJ, gk_catD] <;> decide) ?_
    refine gk_weak [1, 0] (L' := [(0, va_rf v0), (1, .int (0 : Int32))]) rfl ?_
    exact p_M_text_b53 d gk_F v0 (0 : Int32) h3
  · exact gk_vret (pc := 24) rfl d_M_text_24 rfl
theorem w_M_text (d : Nat) (a0 : Option Nat) (h : gk_H) : gk_P gw_V (d + 1) y_M_text b_M_text 2 none [] (f_M_text a0 h) 0 [(0, va_rf a0)] [] h := by
  unfold f_M_text
  refine gk_aload_n (pc := 0) 0 d_M_text_0 rfl ?_
  refine gk_aload_n (pc := 1) 0 d_M_text_1 rfl ?_
  refine gk_iconst (pc := 2) (1 : Int32) d_M_text_2 rfl ?_
  refine gk_callV (pc := 3) (d := d) (w' := gv_I) (as := [.int (1 : Int32)]) (n := 1) 7 d_M_text_3 rfl rfl rfl rfl (by simp [gk_cat_rf, gk_catI, gk_catJ, gk_catD, gv_V, gv_I, gv_J, gv_D, gv_R]) tw_1729 tw_1731 tw_14 tw_99 cw_M_isFull hy_M_isFull (Nat.le_of_ble_eq_true rfl) (p_M_isFull d a0 (1 : Int32) h) fun x1 h1 => ?_
  refine gk_if_eq (pc := 6) 13 d_M_text_6 rfl (fun _ => ?_) (fun _ => ?_)
  · refine gk_iconst (pc := 13) (0 : Int32) d_M_text_13 rfl ?_
    exact p_M_text_b14 d a0 a0 (0 : Int32) h1
  · refine gk_iconst (pc := 9) (1 : Int32) d_M_text_9 rfl ?_
    refine gk_goto (pc := 10) 14 d_M_text_10 rfl ?_
    exact p_M_text_b14 d a0 a0 (1 : Int32) h1
theorem p_M_text (d : Nat) (a0 : Option Nat) (h : gk_H) : ∀ r h1, f_M_text a0 h = some (r, h1) → gk_M (d + 1) y_M_text b_M_text 2 none [va_rf a0] h (.inl (gv_V r)) h1 :=
  fun r h1 e => gk_M_of2 (by decide +kernel) (by simp [lv_args, gk_cat_rf, gk_catI, gk_catJ, gk_catD, gv_V, gv_I, gv_J, gv_D, gv_R]) (by simp [lg_sl, gk_cat_rf, gk_catI, gk_catJ, gk_catD, gv_V, gv_I, gv_J, gv_D, gv_R]) (w_M_text d a0 h r h1 e)
theorem d_M_plain_0 : decode b_M_plain 0 = .ok (.iload_n 1, 1) := by decide +kernel
theorem d_M_plain_1 : decode b_M_plain 1 = .ok (.ifCond .eq 33, 3) := by decide +kernel
theorem d_M_plain_4 : decode b_M_plain 4 = .ok (.iload_n 1, 1) := by decide +kernel
theorem d_M_plain_5 : decode b_M_plain 5 = .ok (.iconst 3, 1) := by decide +kernel
theorem d_M_plain_6 : decode b_M_plain 6 = .ok (.if_icmp .ne 12, 3) := by decide +kernel
theorem d_M_plain_9 : decode b_M_plain 9 = .ok (.iload_n 2, 1) := by decide +kernel
theorem d_M_plain_10 : decode b_M_plain 10 = .ok (.ifCond .eq 24, 3) := by decide +kernel
theorem d_M_plain_13 : decode b_M_plain 13 = .ok (.iload_n 2, 1) := by decide +kernel
theorem d_M_plain_14 : decode b_M_plain 14 = .ok (.iconst 1, 1) := by decide +kernel
theorem d_M_plain_15 : decode b_M_plain 15 = .ok (.if_icmp .eq 19, 3) := by decide +kernel
theorem d_M_plain_18 : decode b_M_plain 18 = .ok (.iload_n 1, 1) := by decide +kernel
theorem d_M_plain_19 : decode b_M_plain 19 = .ok (.iconst 4, 1) := by decide +kernel
theorem d_M_plain_20 : decode b_M_plain 20 = .ok (.if_icmp .ne 18, 3) := by decide +kernel
theorem d_M_plain_23 : decode b_M_plain 23 = .ok (.iload_n 2, 1) := by decide +kernel
theorem d_M_plain_24 : decode b_M_plain 24 = .ok (.iconst 1, 1) := by decide +kernel
theorem d_M_plain_25 : decode b_M_plain 25 = .ok (.if_icmp .lt 13, 3) := by decide +kernel
theorem d_M_plain_28 : decode b_M_plain 28 = .ok (.iload_n 2, 1) := by decide +kernel
theorem d_M_plain_29 : decode b_M_plain 29 = .ok (.bipush 8, 2) := by decide +kernel
theorem d_M_plain_31 : decode b_M_plain 31 = .ok (.if_icmp .gt 7, 3) := by decide +kernel
theorem d_M_plain_34 : decode b_M_plain 34 = .ok (.iconst 1, 1) := by decide +kernel
theorem d_M_plain_35 : decode b_M_plain 35 = .ok (.goto 4, 3) := by decide +kernel
theorem d_M_plain_38 : decode b_M_plain 38 = .ok (.iconst 0, 1) := by decide +kernel
theorem d_M_plain_39 : decode b_M_plain 39 = .ok (.istore_n 3, 1) := by decide +kernel
theorem d_M_plain_40 : decode b_M_plain 40 = .ok (.aload_n 0, 1) := by decide +kernel
theorem d_M_plain_41 : decode b_M_plain 41 = .ok (.iload_n 3, 1) := by decide +kernel
theorem d_M_plain_42 : decode b_M_plain 42 = .ok (.ifCond .ne 7, 3) := by decide +kernel
theorem d_M_plain_45 : decode b_M_plain 45 = .ok (.iconst 1, 1) := by decide +kernel
theorem d_M_plain_46 : decode b_M_plain 46 = .ok (.goto 16, 3) := by decide +kernel
theorem d_M_plain_49 : decode b_M_plain 49 = .ok (.aload_n 0, 1) := by decide +kernel
theorem d_M_plain_50 : decode b_M_plain 50 = .ok (.iconst 1, 1) := by decide +kernel
theorem d_M_plain_51 : decode b_M_plain 51 = .ok (.invokevirtual 72, 3) := by decide +kernel
theorem d_M_plain_54 : decode b_M_plain 54 = .ok (.ifCond .eq 7, 3) := by decide +kernel
theorem d_M_plain_57 : decode b_M_plain 57 = .ok (.iconst 2, 1) := by decide +kernel
theorem d_M_plain_58 : decode b_M_plain 58 = .ok (.goto 4, 3) := by decide +kernel
theorem d_M_plain_61 : decode b_M_plain 61 = .ok (.iconst 0, 1) := by decide +kernel
theorem d_M_plain_62 : decode b_M_plain 62 = .ok (.putfield 46, 3) := by decide +kernel
theorem d_M_plain_65 : decode b_M_plain 65 = .ok (.aload_n 0, 1) := by decide +kernel
theorem d_M_plain_66 : decode b_M_plain 66 = .ok (.getfield 46, 3) := by decide +kernel
theorem d_M_plain_69 : decode b_M_plain 69 = .ok (.ifCond .le 4, 3) := by decide +kernel
theorem d_M_plain_72 : decode b_M_plain 72 = .ok (.return_, 1) := by decide +kernel
theorem d_M_plain_73 : decode b_M_plain 73 = .ok (.aload_n 0, 1) := by decide +kernel
theorem d_M_plain_74 : decode b_M_plain 74 = .ok (.aload_n 0, 1) := by decide +kernel
theorem d_M_plain_75 : decode b_M_plain 75 = .ok (.getfield 69, 3) := by decide +kernel
theorem d_M_plain_78 : decode b_M_plain 78 = .ok (.iload_n 1, 1) := by decide +kernel
theorem d_M_plain_79 : decode b_M_plain 79 = .ok (.iload_n 1, 1) := by decide +kernel
theorem d_M_plain_80 : decode b_M_plain 80 = .ok (.ifCond .ne 7, 3) := by decide +kernel
theorem d_M_plain_83 : decode b_M_plain 83 = .ok (.dconst 0, 1) := by decide +kernel
theorem d_M_plain_84 : decode b_M_plain 84 = .ok (.goto 5, 3) := by decide +kernel
theorem d_M_plain_87 : decode b_M_plain 87 = .ok (.iload_n 2, 1) := by decide +kernel
theorem d_M_plain_88 : decode b_M_plain 88 = .ok (.i2d, 1) := by decide +kernel
theorem d_M_plain_89 : decode b_M_plain 89 = .ok (.invokevirtual 76, 3) := by decide +kernel
theorem d_M_plain_92 : decode b_M_plain 92 = .ok (.aload_n 0, 1) := by decide +kernel
theorem d_M_plain_93 : decode b_M_plain 93 = .ok (.dup, 1) := by decide +kernel
theorem d_M_plain_94 : decode b_M_plain 94 = .ok (.getfield 69, 3) := by decide +kernel
theorem d_M_plain_97 : decode b_M_plain 97 = .ok (.iconst 1, 1) := by decide +kernel
theorem d_M_plain_98 : decode b_M_plain 98 = .ok (.iadd, 1) := by decide +kernel
theorem d_M_plain_99 : decode b_M_plain 99 = .ok (.putfield 69, 3) := by decide +kernel
theorem d_M_plain_102 : decode b_M_plain 102 = .ok (.return_, 1) := by decide +kernel
theorem p_M_plain_b89 (d : Nat)  (v0 : Option Nat) (s0 : Option Nat) (s1 : Int32) (s2 : Int32) (s3 : UInt64) (h : gk_H) : gk_P gw_V (d + 1) y_M_plain b_M_plain 4 none [] (f_M_plain_b89  v0 s0 s1 s2 s3 h) 89 [(0, va_rf v0)] [.double s3, .int s2, .int s1, va_rf s0] h := by
  unfold f_M_plain_b89
  refine gk_callV (pc := 89) (d := d) (w' := gv_V) (as := [.int s1, .int s2, .double s3]) (n := 3) 7 d_M_plain_89 rfl rfl rfl rfl (Nat.le_of_ble_eq_true rfl) tw_1733 tw_1735 tw_15 tw_99 cw_M_setSingle hy_M_setSingle (Nat.le_of_ble_eq_true rfl) (p_M_setSingle d s0 s1 s2 s3 h) fun _ h1 => ?_
  refine gk_aload_n (pc := 92) 0 d_M_plain_92 rfl ?_
  refine gk_dup (pc := 93) d_M_plain_93 (gk_cat_rf _) ?_
  refine gk_getI (pc := 94) 7 3 d_M_plain_94 rfl (Nat.le_of_ble_eq_true rfl) tw_1648 fun x1 => ?_
  refine gk_iconst (pc := 97) (1 : Int32) d_M_plain_97 rfl ?_
  refine gk_iadd (pc := 98) d_M_plain_98 ?_
  refine gk_putfield (pc := 99) 7 3 d_M_plain_99 rfl (Nat.le_of_ble_eq_true rfl) tw_1648 (Or.inl rfl) fun h2 => ?_
  exact gk_vret (pc := 102) rfl d_M_plain_102 rfl
theorem p_M_plain_b62 (d : Nat)  (v0 : Option Nat) (v1 : Int32) (v2 : Int32) (s0 : Option Nat) (s1 : Int32) (h : gk_H) : gk_P gw_V (d + 1) y_M_plain b_M_plain 4 none [] (f_M_plain_b62  v0 v1 v2 s0 s1 h) 62 [(0, va_rf v0), (1, .int v1), (2, .int v2)] [.int s1, va_rf s0] h := by
  unfold f_M_plain_b62
  refine gk_putfield (pc := 62) 7 0 d_M_plain_62 rfl (Nat.le_of_ble_eq_true rfl) tw_1645 (Or.inl rfl) fun h1 => ?_
  refine gk_aload_n (pc := 65) 0 d_M_plain_65 rfl ?_
  refine gk_getI (pc := 66) 7 0 d_M_plain_66 rfl (Nat.le_of_ble_eq_true rfl) tw_1645 fun x1 => ?_
  refine gk_if_le (pc := 69) 73 d_M_plain_69 rfl (fun _ => ?_) (fun _ => ?_)
  · refine gk_aload_n (pc := 73) 0 d_M_plain_73 rfl ?_
    refine gk_aload_n (pc := 74) 0 d_M_plain_74 rfl ?_
    refine gk_getI (pc := 75) 7 3 d_M_plain_75 rfl (Nat.le_of_ble_eq_true rfl) tw_1648 fun x2 => ?_
    refine gk_iload_n (pc := 78) 1 d_M_plain_78 rfl ?_
    refine gk_iload_n (pc := 79) 1 d_M_plain_79 rfl ?_
    refine gk_if_ne (pc := 80) 87 d_M_plain_80 rfl (fun _ => ?_) (fun _ => ?_)
    · refine gk_dconst0 (pc := 83) d_M_plain_83 ?_
      refine gk_goto (pc := 84) 89 d_M_plain_84 rfl ?_
      refine gk_weak [0] (L' := [(0, va_rf v0)]) rfl ?_
      exact p_M_plain_b89 d v0 v0 x2 v1 (0x0000000000000000) h1
    · refine gk_iload_n (pc := 87) 2 d_M_plain_87 rfl ?_
      refine gk_i2d (pc := 88) d_M_plain_88 ?_
      refine gk_weak [0] (L' := [(0, va_rf v0)]) rfl ?_
      exact p_M_plain_b89 d v0 v0 x2 v1 (FP.i2d v2) h1
  · exact gk_vret (pc := 72) rfl d_M_plain_72 rfl
theorem p_M_plain_b39 (d : Nat)  (v0 : Option Nat) (v1 : Int32) (v2 : Int32) (s0 : Int32) (h : gk_H) : gk_P gw_V (d + 1) y_M_plain b_M_plain 4 none [] (f_M_plain_b39  v0 v1 v2 s0 h) 39 [(0, va_rf v0), (1, .int v1), (2, .int v2)] [.int s0] h := by
  unfold f_M_plain_b39
  refine gk_istore_n (pc := 39) (L' := [(3, .int s0), (0, va_rf v0), (1, .int v1), (2, .int v2)]) d_M_plain_39 (Nat.le_of_ble_eq_true rfl) rfl ?_
  refine gk_aload_n (pc := 40) 1 d_M_plain_40 rfl ?_
  refine gk_iload_n (pc := 41) 0 d_M_plain_41 rfl ?_
  refine gk_if_ne (pc := 42) 49 d_M_plain_42 rfl (fun _ => ?_) (fun _ => ?_)
  · refine gk_iconst (pc := 45) (1 : Int32) d_M_plain_45 rfl ?_
    refine gk_goto (pc := 46) 62 d_M_plain_46 rfl ?_
    refine gk_weak [1, 2, 3] (L' := [(0, va_rf v0), (1, .int v1), (2, .int v2)]) rfl ?_
    exact p_M_plain_b62 d v0 v1 v2 v0 (1 : Int32) h
  · refine gk_aload_n (pc := 49) 1 d_M_plain_49 rfl ?_
    refine gk_iconst (pc := 50) (1 : Int32) d_M_plain_50 rfl ?_
    refine gk_callV (pc := 51) (d := d) (w' := gv_I) (as := [.int (1 : Int32)]) (n := 1) 7 d_M_plain_51 rfl rfl rfl rfl (by simp [gk_cat_rf, gk_catI, gk_catJ, gk_catD, gv_V, gv_I, gv_J, gv_D, gv_R]) tw_1729 tw_1731 tw_14 tw_99 cw_M_isFull hy_M_isFull (Nat.le_of_ble_eq_true rfl) (p_M_isFull d v0 (1 : Int32) h) fun x1 h1 => ?_
    refine gk_if_eq (pc := 54) 61 d_M_plain_54 rfl (fun _ => ?_) (fun _ => ?_)
    · refine gk_iconst (pc := 61) (0 : Int32) d_M_plain_61 rfl ?_
      refine gk_weak [1, 2, 3] (L' := [(0, va_rf v0), (1, .int v1), (2, .int v2)]) rfl ?_
      exact p_M_plain_b62 d v0 v1 v2 v0 (0 : Int32) h1
    · refine gk_iconst (pc := 57) (2 : Int32) d_M_plain_57 rfl ?_
      refine gk_goto (pc := 58) 62 d_M_plain_58 rfl ?_
      refine gk_weak [1, 2, 3] (L' := [(0, va_rf v0), (1, .int v1), (2, .int v2)]) rfl ?_
      exact p_M_plain_b62 d v0 v1 v2 v0 (2 : Int32) h1
theorem p_M_plain_b34 (d : Nat)  (v0 : Option Nat) (v1 : Int32) (v2 : Int32) (h : gk_H) : gk_P gw_V (d + 1) y_M_plain b_M_plain 4 none [] (f_M_plain_b34  v0 v1 v2 h) 34 [(0, va_rf v0), (1, .int v1), (2, .int v2)] [] h := by
  unfold f_M_plain_b34
  refine gk_iconst (pc := 34) (1 : Int32) d_M_plain_34 rfl ?_
  refine gk_goto (pc := 35) 39 d_M_plain_35 rfl ?_
  exact p_M_plain_b39 d v0 v1 v2 (1 : Int32) h
theorem p_M_plain_b38 (d : Nat)  (v0 : Option Nat) (v1 : Int32) (v2 : Int32) (h : gk_H) : gk_P gw_V (d + 1) y_M_plain b_M_plain 4 none [] (f_M_plain_b38  v0 v1 v2 h) 38 [(0, va_rf v0), (1, .int v1), (2, .int v2)] [] h := by
  unfold f_M_plain_b38
  refine gk_iconst (pc := 38) (0 : Int32) d_M_plain_38 rfl ?_
  exact p_M_plain_b39 d v0 v1 v2 (0 : Int32) h
theorem p_M_plain_b18 (d : Nat)  (v0 : Option Nat) (v1 : Int32) (v2 : Int32) (h : gk_H) : gk_P gw_V (d + 1) y_M_plain b_M_plain 4 none [] (f_M_plain_b18  v0 v1 v2 h) 18 [(0, va_rf v0), (1, .int v1), (2, .int v2)] [] h := by
  unfold f_M_plain_b18
  refine gk_iload_n (pc := 18) 1 d_M_plain_18 rfl ?_
  refine gk_iconst (pc := 19) (4 : Int32) d_M_plain_19 rfl ?_
  refine gk_icmp_ne (pc := 20) 38 d_M_plain_20 rfl (fun _ => ?_) (fun _ => ?_)
  · refine gk_iload_n (pc := 23) 2 d_M_plain_23 rfl ?_
    refine gk_iconst (pc := 24) (1 : Int32) d_M_plain_24 rfl ?_
    refine gk_icmp_lt (pc := 25) 38 d_M_plain_25 rfl (fun _ => ?_) (fun _ => ?_)
    · exact p_M_plain_b38 d v0 v1 v2 h
    · refine gk_iload_n (pc := 28) 2 d_M_plain_28 rfl ?_
      refine gk_bipush (pc := 29) (8 : Int32) d_M_plain_29 rfl ?_
      refine gk_icmp_gt (pc := 31) 38 d_M_plain_31 rfl (fun _ => ?_) (fun _ => ?_)
      · exact p_M_plain_b38 d v0 v1 v2 h
      · exact p_M_plain_b34 d v0 v1 v2 h
  · exact p_M_plain_b38 d v0 v1 v2 h
theorem w_M_plain (d : Nat) (a0 : Option Nat) (a1 : Int32) (a2 : Int32) (h : gk_H) : gk_P gw_V (d + 1) y_M_plain b_M_plain 4 none [] (f_M_plain a0 a1 a2 h) 0 [(0, va_rf a0), (1, .int a1), (2, .int a2)] [] h := by
  unfold f_M_plain
  refine gk_iload_n (pc := 0) 1 d_M_plain_0 rfl ?_
  refine gk_if_eq (pc := 1) 34 d_M_plain_1 rfl (fun _ => ?_) (fun _ => ?_)
  · exact p_M_plain_b34 d a0 a1 a2 h
  · refine gk_iload_n (pc := 4) 1 d_M_plain_4 rfl ?_
    refine gk_iconst (pc := 5) (3 : Int32) d_M_plain_5 rfl ?_
    refine gk_icmp_ne (pc := 6) 18 d_M_plain_6 rfl (fun _ => ?_) (fun _ => ?_)
    · refine gk_iload_n (pc := 9) 2 d_M_plain_9 rfl ?_
      refine gk_if_eq (pc := 10) 34 d_M_plain_10 rfl (fun _ => ?_) (fun _ => ?_)
      · exact p_M_plain_b34 d a0 a1 a2 h
      · refine gk_iload_n (pc := 13) 2 d_M_plain_13 rfl ?_
        refine gk_iconst (pc := 14) (1 : Int32) d_M_plain_14 rfl ?_
        refine gk_icmp_eq (pc := 15) 34 d_M_plain_15 rfl (fun _ => ?_) (fun _ => ?_)
        · exact p_M_plain_b34 d a0 a1 a2 h
        · exact p_M_plain_b18 d a0 a1 a2 h
    · exact p_M_plain_b18 d a0 a1 a2 h
theorem p_M_plain (d : Nat) (a0 : Option Nat) (a1 : Int32) (a2 : Int32) (h : gk_H) : ∀ r h1, f_M_plain a0 a1 a2 h = some (r, h1) → gk_M (d + 1) y_M_plain b_M_plain 4 none [va_rf a0, .int a1, .int a2] h (.inl (gv_V r)) h1 :=
  fun r h1 e => gk_M_of2 (by decide +kernel) (by simp [lv_args, gk_cat_rf, gk_catI, gk_catJ, gk_catD, gv_V, gv_I, gv_J, gv_D, gv_R]) (by simp [lg_sl, gk_cat_rf, gk_catI, gk_catJ, gk_catD, gv_V, gv_I, gv_J, gv_D, gv_R]) (w_M_plain d a0 a1 a2 h r h1 e)
theorem d_M_copyCell_0 : decode b_M_copyCell 0 = .ok (.aload_n 0, 1) := by decide +kernel
theorem d_M_copyCell_1 : decode b_M_copyCell 1 = .ok (.getfield 23, 3) := by decide +kernel
theorem d_M_copyCell_4 : decode b_M_copyCell 4 = .ok (.iload_n 2, 1) := by decide +kernel
theorem d_M_copyCell_5 : decode b_M_copyCell 5 = .ok (.aload_n 0, 1) := by decide +kernel
theorem d_M_copyCell_6 : decode b_M_copyCell 6 = .ok (.getfield 23, 3) := by decide +kernel
theorem d_M_copyCell_9 : decode b_M_copyCell 9 = .ok (.iload_n 1, 1) := by decide +kernel
theorem d_M_copyCell_10 : decode b_M_copyCell 10 = .ok (.iaload, 1) := by decide +kernel
theorem d_M_copyCell_11 : decode b_M_copyCell 11 = .ok (.iastore, 1) := by decide +kernel
theorem d_M_copyCell_12 : decode b_M_copyCell 12 = .ok (.aload_n 0, 1) := by decide +kernel
theorem d_M_copyCell_13 : decode b_M_copyCell 13 = .ok (.getfield 26, 3) := by decide +kernel
theorem d_M_copyCell_16 : decode b_M_copyCell 16 = .ok (.iload_n 2, 1) := by decide +kernel
theorem d_M_copyCell_17 : decode b_M_copyCell 17 = .ok (.aload_n 0, 1) := by decide +kernel
theorem d_M_copyCell_18 : decode b_M_copyCell 18 = .ok (.getfield 26, 3) := by decide +kernel
theorem d_M_copyCell_21 : decode b_M_copyCell 21 = .ok (.iload_n 1, 1) := by decide +kernel
theorem d_M_copyCell_22 : decode b_M_copyCell 22 = .ok (.daload, 1) := by decide +kernel
theorem d_M_copyCell_23 : decode b_M_copyCell 23 = .ok (.dastore, 1) := by decide +kernel
theorem d_M_copyCell_24 : decode b_M_copyCell 24 = .ok (.aload_n 0, 1) := by decide +kernel
theorem d_M_copyCell_25 : decode b_M_copyCell 25 = .ok (.getfield 30, 3) := by decide +kernel
theorem d_M_copyCell_28 : decode b_M_copyCell 28 = .ok (.iload_n 2, 1) := by decide +kernel
theorem d_M_copyCell_29 : decode b_M_copyCell 29 = .ok (.aload_n 0, 1) := by decide +kernel
theorem d_M_copyCell_30 : decode b_M_copyCell 30 = .ok (.getfield 30, 3) := by decide +kernel
theorem d_M_copyCell_33 : decode b_M_copyCell 33 = .ok (.iload_n 1, 1) := by decide +kernel
theorem d_M_copyCell_34 : decode b_M_copyCell 34 = .ok (.iaload, 1) := by decide +kernel
theorem d_M_copyCell_35 : decode b_M_copyCell 35 = .ok (.iastore, 1) := by decide +kernel
theorem d_M_copyCell_36 : decode b_M_copyCell 36 = .ok (.iconst 0, 1) := by decide +kernel
theorem d_M_copyCell_37 : decode b_M_copyCell 37 = .ok (.istore_n 3, 1) := by decide +kernel
theorem d_M_copyCell_38 : decode b_M_copyCell 38 = .ok (.iload_n 3, 1) := by decide +kernel
theorem d_M_copyCell_39 : decode b_M_copyCell 39 = .ok (.aload_n 0, 1) := by decide +kernel
theorem d_M_copyCell_40 : decode b_M_copyCell 40 = .ok (.getfield 30, 3) := by decide +kernel
theorem d_M_copyCell_43 : decode b_M_copyCell 43 = .ok (.iload_n 1, 1) := by decide +kernel
theorem d_M_copyCell_44 : decode b_M_copyCell 44 = .ok (.iaload, 1) := by decide +kernel
theorem d_M_copyCell_45 : decode b_M_copyCell 45 = .ok (.if_icmp .ge 33, 3) := by decide +kernel
theorem d_M_copyCell_48 : decode b_M_copyCell 48 = .ok (.aload_n 0, 1) := by decide +kernel
theorem d_M_copyCell_49 : decode b_M_copyCell 49 = .ok (.getfield 34, 3) := by decide +kernel
theorem d_M_copyCell_52 : decode b_M_copyCell 52 = .ok (.sipush 256, 3) := by decide +kernel
theorem d_M_copyCell_55 : decode b_M_copyCell 55 = .ok (.iload_n 2, 1) := by decide +kernel
theorem d_M_copyCell_56 : decode b_M_copyCell 56 = .ok (.imul, 1) := by decide +kernel
theorem d_M_copyCell_57 : decode b_M_copyCell 57 = .ok (.iload_n 3, 1) := by decide +kernel
theorem d_M_copyCell_58 : decode b_M_copyCell 58 = .ok (.iadd, 1) := by decide +kernel
theorem d_M_copyCell_59 : decode b_M_copyCell 59 = .ok (.aload_n 0, 1) := by decide +kernel
theorem d_M_copyCell_60 : decode b_M_copyCell 60 = .ok (.getfield 34, 3) := by decide +kernel
theorem d_M_copyCell_63 : decode b_M_copyCell 63 = .ok (.sipush 256, 3) := by decide +kernel
theorem d_M_copyCell_66 : decode b_M_copyCell 66 = .ok (.iload_n 1, 1) := by decide +kernel
theorem d_M_copyCell_67 : decode b_M_copyCell 67 = .ok (.imul, 1) := by decide +kernel
theorem d_M_copyCell_68 : decode b_M_copyCell 68 = .ok (.iload_n 3, 1) := by decide +kernel
theorem d_M_copyCell_69 : decode b_M_copyCell 69 = .ok (.iadd, 1) := by decide +kernel
theorem d_M_copyCell_70 : decode b_M_copyCell 70 = .ok (.baload, 1) := by decide +kernel
theorem d_M_copyCell_71 : decode b_M_copyCell 71 = .ok (.bastore, 1) := by decide +kernel
theorem d_M_copyCell_72 : decode b_M_copyCell 72 = .ok (.iinc 3 1, 3) := by decide +kernel
theorem d_M_copyCell_75 : decode b_M_copyCell 75 = .ok (.goto (-37), 3) := by decide +kernel
theorem d_M_copyCell_78 : decode b_M_copyCell 78 = .ok (.return_, 1) := by decide +kernel
theorem p_M_copyCell_b38 (d : Nat)  : ∀ (fu : Nat) (v0 : Option Nat) (v1 : Int32) (v2 : Int32) (v3 : Int32) (h : gk_H), gk_P gw_V d y_M_copyCell b_M_copyCell 4 none [] (f_M_copyCell_b38  fu v0 v1 v2 v3 h) 38 [(0, va_rf v0), (1, .int v1), (2, .int v2), (3, .int v3)] [] h := by
  intro fu
  induction fu with
  | zero => intros; exact gk_none
  | succ fu q38 =>
    intro v0 v1 v2 v3 h
    rw [f_M_copyCell_b38]
    refine gk_iload_n (pc := 38) 3 d_M_copyCell_38 rfl ?_
    refine gk_aload_n (pc := 39) 0 d_M_copyCell_39 rfl ?_
    refine gk_getR (pc := 40) 7 9 d_M_copyCell_40 rfl (Nat.le_of_ble_eq_true rfl) tw_1654 fun x1 => ?_
    refine gk_iload_n (pc := 43) 1 d_M_copyCell_43 rfl ?_
    refine gk_iald (pc := 44) d_M_copyCell_44 fun x2 => ?_
    refine gk_icmp_ge (pc := 45) 78 d_M_copyCell_45 rfl (fun _ => ?_) (fun _ => ?_)
    · exact gk_vret (pc := 78) rfl d_M_copyCell_78 rfl
    · refine gk_aload_n (pc := 48) 0 d_M_copyCell_48 rfl ?_
      refine gk_getR (pc := 49) 7 10 d_M_copyCell_49 rfl (Nat.le_of_ble_eq_true rfl) tw_1655 fun x3 => ?_
      refine gk_sipush (pc := 52) (256 : Int32) d_M_copyCell_52 rfl ?_
      refine gk_iload_n (pc := 55) 2 d_M_copyCell_55 rfl ?_
      refine gk_imul (pc := 56) d_M_copyCell_56 ?_
      refine gk_iload_n (pc := 57) 3 d_M_copyCell_57 rfl ?_
      refine gk_iadd (pc := 58) d_M_copyCell_58 ?_
      refine gk_aload_n (pc := 59) 0 d_M_copyCell_59 rfl ?_
      refine gk_getR (pc := 60) 7 10 d_M_copyCell_60 rfl (Nat.le_of_ble_eq_true rfl) tw_1655 fun x4 => ?_
      refine gk_sipush (pc := 63) (256 : Int32) d_M_copyCell_63 rfl ?_
      refine gk_iload_n (pc := 66) 1 d_M_copyCell_66 rfl ?_
      refine gk_imul (pc := 67) d_M_copyCell_67 ?_
      refine gk_iload_n (pc := 68) 3 d_M_copyCell_68 rfl ?_
      refine gk_iadd (pc := 69) d_M_copyCell_69 ?_
      refine gk_bald (pc := 70) d_M_copyCell_70 fun x5 => ?_
      refine gk_bast (pc := 71) d_M_copyCell_71 fun h1 => ?_
      refine gk_iincN (pc := 72) 3 (1 : Int32) (L' := fun x6 => [(3, .int x6), (0, va_rf v0), (1, .int v1), (2, .int v2)]) d_M_copyCell_72 rfl rfl (Nat.le_of_ble_eq_true rfl) (fun _ => rfl) fun x6 => ?_
      refine gk_goto (pc := 75) 38 d_M_copyCell_75 rfl ?_
      refine gk_weak [1, 2, 3, 0] (L' := [(0, va_rf v0), (1, .int v1), (2, .int v2), (3, .int x6)]) rfl ?_
      exact q38 v0 v1 v2 x6 h1
theorem w_M_copyCell (d : Nat) (a0 : Option Nat) (a1 : Int32) (a2 : Int32) (h : gk_H) : gk_P gw_V d y_M_copyCell b_M_copyCell 4 none [] (f_M_copyCell a0 a1 a2 h) 0 [(0, va_rf a0), (1, .int a1), (2, .int a2)] [] h := by
  unfold f_M_copyCell
  refine gk_aload_n (pc := 0) 0 d_M_copyCell_0 rfl ?_
  refine gk_getR (pc := 1) 7 7 d_M_copyCell_1 rfl (Nat.le_of_ble_eq_true rfl) tw_1652 fun x1 => ?_
  refine gk_iload_n (pc := 4) 2 d_M_copyCell_4 rfl ?_
  refine gk_aload_n (pc := 5) 0 d_M_copyCell_5 rfl ?_
  refine gk_getR (pc := 6) 7 7 d_M_copyCell_6 rfl (Nat.le_of_ble_eq_true rfl) tw_1652 fun x2 => ?_
  refine gk_iload_n (pc := 9) 1 d_M_copyCell_9 rfl ?_
  refine gk_iald (pc := 10) d_M_copyCell_10 fun x3 => ?_
  refine gk_iast (pc := 11) d_M_copyCell_11 fun h1 => ?_
  refine gk_aload_n (pc := 12) 0 d_M_copyCell_12 rfl ?_
  refine gk_getR (pc := 13) 7 8 d_M_copyCell_13 rfl (Nat.le_of_ble_eq_true rfl) tw_1653 fun x4 => ?_
  refine gk_iload_n (pc := 16) 2 d_M_copyCell_16 rfl ?_
  refine gk_aload_n (pc := 17) 0 d_M_copyCell_17 rfl ?_
  refine gk_getR (pc := 18) 7 8 d_M_copyCell_18 rfl (Nat.le_of_ble_eq_true rfl) tw_1653 fun x5 => ?_
  refine gk_iload_n (pc := 21) 1 d_M_copyCell_21 rfl ?_
  refine gk_dald (pc := 22) d_M_copyCell_22 fun x6 => ?_
  refine gk_dast (pc := 23) d_M_copyCell_23 fun h2 => ?_
  refine gk_aload_n (pc := 24) 0 d_M_copyCell_24 rfl ?_
  refine gk_getR (pc := 25) 7 9 d_M_copyCell_25 rfl (Nat.le_of_ble_eq_true rfl) tw_1654 fun x7 => ?_
  refine gk_iload_n (pc := 28) 2 d_M_copyCell_28 rfl ?_
  refine gk_aload_n (pc := 29) 0 d_M_copyCell_29 rfl ?_
  refine gk_getR (pc := 30) 7 9 d_M_copyCell_30 rfl (Nat.le_of_ble_eq_true rfl) tw_1654 fun x8 => ?_
  refine gk_iload_n (pc := 33) 1 d_M_copyCell_33 rfl ?_
  refine gk_iald (pc := 34) d_M_copyCell_34 fun x9 => ?_
  refine gk_iast (pc := 35) d_M_copyCell_35 fun h3 => ?_
  refine gk_iconst (pc := 36) (0 : Int32) d_M_copyCell_36 rfl ?_
  refine gk_istore_n (pc := 37) (L' := [(3, .int (0 : Int32)), (0, va_rf a0), (1, .int a1), (2, .int a2)]) d_M_copyCell_37 (Nat.le_of_ble_eq_true rfl) rfl ?_
  refine gk_weak [1, 2, 3, 0] (L' := [(0, va_rf a0), (1, .int a1), (2, .int a2), (3, .int (0 : Int32))]) rfl ?_
  exact p_M_copyCell_b38 d gk_F a0 a1 a2 (0 : Int32) h3
theorem p_M_copyCell (d : Nat) (a0 : Option Nat) (a1 : Int32) (a2 : Int32) (h : gk_H) : ∀ r h1, f_M_copyCell a0 a1 a2 h = some (r, h1) → gk_M d y_M_copyCell b_M_copyCell 4 none [va_rf a0, .int a1, .int a2] h (.inl (gv_V r)) h1 :=
  fun r h1 e => gk_M_of2 (by decide +kernel) (by simp [lv_args, gk_cat_rf, gk_catI, gk_catJ, gk_catD, gv_V, gv_I, gv_J, gv_D, gv_R]) (by simp [lg_sl, gk_cat_rf, gk_catI, gk_catJ, gk_catD, gv_V, gv_I, gv_J, gv_D, gv_R]) (w_M_copyCell d a0 a1 a2 h r h1 e)
theorem d_M_array_0 : decode b_M_array 0 = .ok (.iload_n 1, 1) := by decide +kernel
theorem d_M_array_1 : decode b_M_array 1 = .ok (.iconst 1, 1) := by decide +kernel
theorem d_M_array_2 : decode b_M_array 2 = .ok (.if_icmp .lt 26, 3) := by decide +kernel
theorem d_M_array_5 : decode b_M_array 5 = .ok (.iload_n 2, 1) := by decide +kernel
theorem d_M_array_6 : decode b_M_array 6 = .ok (.iconst 1, 1) := by decide +kernel
theorem d_M_array_7 : decode b_M_array 7 = .ok (.if_icmp .lt 21, 3) := by decide +kernel
theorem d_M_array_10 : decode b_M_array 10 = .ok (.iload_n 1, 1) := by decide +kernel
theorem d_M_array_11 : decode b_M_array 11 = .ok (.i2l, 1) := by decide +kernel
theorem d_M_array_12 : decode b_M_array 12 = .ok (.iload_n 2, 1) := by decide +kernel
theorem d_M_array_13 : decode b_M_array 13 = .ok (.i2l, 1) := by decide +kernel
theorem d_M_array_14 : decode b_M_array 14 = .ok (.lmul, 1) := by decide +kernel
theorem d_M_array_15 : decode b_M_array 15 = .ok (.aload_n 0, 1) := by decide +kernel
theorem d_M_array_16 : decode b_M_array 16 = .ok (.getfield 69, 3) := by decide +kernel
theorem d_M_array_19 : decode b_M_array 19 = .ok (.i2l, 1) := by decide +kernel
theorem d_M_array_20 : decode b_M_array 20 = .ok (.lcmp, 1) := by decide +kernel
theorem d_M_array_21 : decode b_M_array 21 = .ok (.ifCond .gt 7, 3) := by decide +kernel
theorem d_M_array_24 : decode b_M_array 24 = .ok (.iconst 1, 1) := by decide +kernel
theorem d_M_array_25 : decode b_M_array 25 = .ok (.goto 4, 3) := by decide +kernel
theorem d_M_array_28 : decode b_M_array 28 = .ok (.iconst 0, 1) := by decide +kernel
theorem d_M_array_29 : decode b_M_array 29 = .ok (.istore_n 3, 1) := by decide +kernel
theorem d_M_array_30 : decode b_M_array 30 = .ok (.iload_n 3, 1) := by decide +kernel
theorem d_M_array_31 : decode b_M_array 31 = .ok (.ifCond .eq 14, 3) := by decide +kernel
theorem d_M_array_34 : decode b_M_array 34 = .ok (.aload_n 0, 1) := by decide +kernel
theorem d_M_array_35 : decode b_M_array 35 = .ok (.getfield 69, 3) := by decide +kernel
theorem d_M_array_38 : decode b_M_array 38 = .ok (.iload_n 1, 1) := by decide +kernel
theorem d_M_array_39 : decode b_M_array 39 = .ok (.iload_n 2, 1) := by decide +kernel
theorem d_M_array_40 : decode b_M_array 40 = .ok (.imul, 1) := by decide +kernel
theorem d_M_array_41 : decode b_M_array 41 = .ok (.isub, 1) := by decide +kernel
theorem d_M_array_42 : decode b_M_array 42 = .ok (.goto 7, 3) := by decide +kernel
theorem d_M_array_45 : decode b_M_array 45 = .ok (.aload_n 0, 1) := by decide +kernel
theorem d_M_array_46 : decode b_M_array 46 = .ok (.getfield 69, 3) := by decide +kernel
theorem d_M_array_49 : decode b_M_array 49 = .ok (.istore 4, 2) := by decide +kernel
theorem d_M_array_51 : decode b_M_array 51 = .ok (.iload 4, 2) := by decide +kernel
theorem d_M_array_53 : decode b_M_array 53 = .ok (.aload_n 0, 1) := by decide +kernel
theorem d_M_array_54 : decode b_M_array 54 = .ok (.getfield 69, 3) := by decide +kernel
theorem d_M_array_57 : decode b_M_array 57 = .ok (.if_icmp .ge 30, 3) := by decide +kernel
theorem d_M_array_60 : decode b_M_array 60 = .ok (.iload_n 3, 1) := by decide +kernel
theorem d_M_array_61 : decode b_M_array 61 = .ok (.ifCond .eq 18, 3) := by decide +kernel
theorem d_M_array_64 : decode b_M_array 64 = .ok (.aload_n 0, 1) := by decide +kernel
theorem d_M_array_65 : decode b_M_array 65 = .ok (.getfield 13, 3) := by decide +kernel
theorem d_M_array_68 : decode b_M_array 68 = .ok (.iload 4, 2) := by decide +kernel
theorem d_M_array_70 : decode b_M_array 70 = .ok (.iaload, 1) := by decide +kernel
theorem d_M_array_71 : decode b_M_array 71 = .ok (.iconst 5, 1) := by decide +kernel
theorem d_M_array_72 : decode b_M_array 72 = .ok (.if_icmp .ge 7, 3) := by decide +kernel
theorem d_M_array_75 : decode b_M_array 75 = .ok (.iconst 1, 1) := by decide +kernel
theorem d_M_array_76 : decode b_M_array 76 = .ok (.goto 4, 3) := by decide +kernel
theorem d_M_array_79 : decode b_M_array 79 = .ok (.iconst 0, 1) := by decide +kernel
theorem d_M_array_80 : decode b_M_array 80 = .ok (.istore_n 3, 1) := by decide +kernel
theorem d_M_array_81 : decode b_M_array 81 = .ok (.iinc 4 1, 3) := by decide +kernel
theorem d_M_array_84 : decode b_M_array 84 = .ok (.goto (-33), 3) := by decide +kernel
theorem d_M_array_87 : decode b_M_array 87 = .ok (.aload_n 0, 1) := by decide +kernel
theorem d_M_array_88 : decode b_M_array 88 = .ok (.iload_n 3, 1) := by decide +kernel
theorem d_M_array_89 : decode b_M_array 89 = .ok (.ifCond .eq 7, 3) := by decide +kernel
theorem d_M_array_92 : decode b_M_array 92 = .ok (.iconst 0, 1) := by decide +kernel
theorem d_M_array_93 : decode b_M_array 93 = .ok (.goto 4, 3) := by decide +kernel
theorem d_M_array_96 : decode b_M_array 96 = .ok (.iconst 1, 1) := by decide +kernel
theorem d_M_array_97 : decode b_M_array 97 = .ok (.putfield 46, 3) := by decide +kernel
theorem d_M_array_100 : decode b_M_array 100 = .ok (.aload_n 0, 1) := by decide +kernel
theorem d_M_array_101 : decode b_M_array 101 = .ok (.getfield 46, 3) := by decide +kernel
theorem d_M_array_104 : decode b_M_array 104 = .ok (.ifCond .le 4, 3) := by decide +kernel
theorem d_M_array_107 : decode b_M_array 107 = .ok (.return_, 1) := by decide +kernel
theorem d_M_array_108 : decode b_M_array 108 = .ok (.aload_n 0, 1) := by decide +kernel
theorem d_M_array_109 : decode b_M_array 109 = .ok (.getfield 69, 3) := by decide +kernel
theorem d_M_array_112 : decode b_M_array 112 = .ok (.iload_n 1, 1) := by decide +kernel
theorem d_M_array_113 : decode b_M_array 113 = .ok (.iload_n 2, 1) := by decide +kernel
theorem d_M_array_114 : decode b_M_array 114 = .ok (.imul, 1) := by decide +kernel
theorem d_M_array_115 : decode b_M_array 115 = .ok (.isub, 1) := by decide +kernel
theorem d_M_array_116 : decode b_M_array 116 = .ok (.istore 4, 2) := by decide +kernel
theorem d_M_array_118 : decode b_M_array 118 = .ok (.iconst 1, 1) := by decide +kernel
theorem d_M_array_119 : decode b_M_array 119 = .ok (.istore 5, 2) := by decide +kernel
theorem d_M_array_121 : decode b_M_array 121 = .ok (.iload 5, 2) := by decide +kernel
theorem d_M_array_123 : decode b_M_array 123 = .ok (.iload_n 1, 1) := by decide +kernel
theorem d_M_array_124 : decode b_M_array 124 = .ok (.iload_n 2, 1) := by decide +kernel
theorem d_M_array_125 : decode b_M_array 125 = .ok (.imul, 1) := by decide +kernel
theorem d_M_array_126 : decode b_M_array 126 = .ok (.if_icmp .ge 29, 3) := by decide +kernel
theorem d_M_array_129 : decode b_M_array 129 = .ok (.aload_n 0, 1) := by decide +kernel
theorem d_M_array_130 : decode b_M_array 130 = .ok (.bipush 16, 2) := by decide +kernel
theorem d_M_array_132 : decode b_M_array 132 = .ok (.iload 4, 2) := by decide +kernel
theorem d_M_array_134 : decode b_M_array 134 = .ok (.iload 5, 2) := by decide +kernel
theorem d_M_array_136 : decode b_M_array 136 = .ok (.iadd, 1) := by decide +kernel
theorem d_M_array_137 : decode b_M_array 137 = .ok (.imul, 1) := by decide +kernel
theorem d_M_array_138 : decode b_M_array 138 = .ok (.bipush 16, 2) := by decide +kernel
theorem d_M_array_140 : decode b_M_array 140 = .ok (.iload 4, 2) := by decide +kernel
theorem d_M_array_142 : decode b_M_array 142 = .ok (.imul, 1) := by decide +kernel
theorem d_M_array_143 : decode b_M_array 143 = .ok (.iload 5, 2) := by decide +kernel
theorem d_M_array_145 : decode b_M_array 145 = .ok (.iadd, 1) := by decide +kernel
theorem d_M_array_146 : decode b_M_array 146 = .ok (.invokevirtual 65, 3) := by decide +kernel
theorem d_M_array_149 : decode b_M_array 149 = .ok (.iinc 5 1, 3) := by decide +kernel
theorem d_M_array_152 : decode b_M_array 152 = .ok (.goto (-31), 3) := by decide +kernel
theorem d_M_array_155 : decode b_M_array 155 = .ok (.aload_n 0, 1) := by decide +kernel
theorem d_M_array_156 : decode b_M_array 156 = .ok (.getfield 13, 3) := by decide +kernel
theorem d_M_array_159 : decode b_M_array 159 = .ok (.iload 4, 2) := by decide +kernel
theorem d_M_array_161 : decode b_M_array 161 = .ok (.iconst 5, 1) := by decide +kernel
theorem d_M_array_162 : decode b_M_array 162 = .ok (.iastore, 1) := by decide +kernel
theorem d_M_array_163 : decode b_M_array 163 = .ok (.aload_n 0, 1) := by decide +kernel
theorem d_M_array_164 : decode b_M_array 164 = .ok (.getfield 17, 3) := by decide +kernel
theorem d_M_array_167 : decode b_M_array 167 = .ok (.iload 4, 2) := by decide +kernel
theorem d_M_array_169 : decode b_M_array 169 = .ok (.iload_n 1, 1) := by decide +kernel
theorem d_M_array_170 : decode b_M_array 170 = .ok (.iastore, 1) := by decide +kernel
theorem d_M_array_171 : decode b_M_array 171 = .ok (.aload_n 0, 1) := by decide +kernel
theorem d_M_array_172 : decode b_M_array 172 = .ok (.getfield 20, 3) := by decide +kernel
theorem d_M_array_175 : decode b_M_array 175 = .ok (.iload 4, 2) := by decide +kernel
theorem d_M_array_177 : decode b_M_array 177 = .ok (.iload_n 2, 1) := by decide +kernel
theorem d_M_array_178 : decode b_M_array 178 = .ok (.iastore, 1) := by decide +kernel
theorem d_M_array_179 : decode b_M_array 179 = .ok (.aload_n 0, 1) := by decide +kernel
theorem d_M_array_180 : decode b_M_array 180 = .ok (.iload 4, 2) := by decide +kernel
theorem d_M_array_182 : decode b_M_array 182 = .ok (.iconst 1, 1) := by decide +kernel
theorem d_M_array_183 : decode b_M_array 183 = .ok (.iadd, 1) := by decide +kernel
theorem d_M_array_184 : decode b_M_array 184 = .ok (.putfield 69, 3) := by decide +kernel
theorem d_M_array_187 : decode b_M_array 187 = .ok (.return_, 1) := by decide +kernel
theorem p_M_array_b121 (d : Nat)  : ∀ (fu : Nat) (v0 : Option Nat) (v1 : Int32) (v2 : Int32) (v4 : Int32) (v5 : Int32) (h : gk_H), gk_P gw_V (d + 1) y_M_array b_M_array 6 none [] (f_M_array_b121  fu v0 v1 v2 v4 v5 h) 121 [(0, va_rf v0), (1, .int v1), (2, .int v2), (4, .int v4), (5, .int v5)] [] h := by
  intro fu
  induction fu with
  | zero => intros; exact gk_none
  | succ fu q121 =>
    intro v0 v1 v2 v4 v5 h
    rw [f_M_array_b121]
    refine gk_iload (pc := 121) 4 d_M_array_121 rfl ?_
    refine gk_iload_n (pc := 123) 1 d_M_array_123 rfl ?_
    refine gk_iload_n (pc := 124) 2 d_M_array_124 rfl ?_
    refine gk_imul (pc := 125) d_M_array_125 ?_
    refine gk_icmp_ge (pc := 126) 155 d_M_array_126 rfl (fun _ => ?_) (fun _ => ?_)
    · refine gk_aload_n (pc := 155) 0 d_M_array_155 rfl ?_
      refine gk_getR (pc := 156) 7 4 d_M_array_156 rfl (Nat.le_of_ble_eq_true rfl) tw_1649 fun x1 => ?_
      refine gk_iload (pc := 159) 3 d_M_array_159 rfl ?_
      refine gk_iconst (pc := 161) (5 : Int32) d_M_array_161 rfl ?_
      refine gk_iast (pc := 162) d_M_array_162 fun h1 => ?_
      refine gk_aload_n (pc := 163) 0 d_M_array_163 rfl ?_
      refine gk_getR (pc := 164) 7 5 d_M_array_164 rfl (Nat.le_of_ble_eq_true rfl) tw_1650 fun x2 => ?_
      refine gk_iload (pc := 167) 3 d_M_array_167 rfl ?_
      refine gk_iload_n (pc := 169) 1 d_M_array_169 rfl ?_
      refine gk_iast (pc := 170) d_M_array_170 fun h2 => ?_
      refine gk_aload_n (pc := 171) 0 d_M_array_171 rfl ?_
      refine gk_getR (pc := 172) 7 6 d_M_array_172 rfl (Nat.le_of_ble_eq_true rfl) tw_1651 fun x3 => ?_
      refine gk_iload (pc := 175) 3 d_M_array_175 rfl ?_
      refine gk_iload_n (pc := 177) 2 d_M_array_177 rfl ?_
      refine gk_iast (pc := 178) d_M_array_178 fun h3 => ?_
      refine gk_aload_n (pc := 179) 0 d_M_array_179 rfl ?_
      refine gk_iload (pc := 180) 3 d_M_array_180 rfl ?_
      refine gk_iconst (pc := 182) (1 : Int32) d_M_array_182 rfl ?_
      refine gk_iadd (pc := 183) d_M_array_183 ?_
      refine gk_putfield (pc := 184) 7 3 d_M_array_184 rfl (Nat.le_of_ble_eq_true rfl) tw_1648 (Or.inl rfl) fun h4 => ?_
      exact gk_vret (pc := 187) rfl d_M_array_187 rfl
    · refine gk_aload_n (pc := 129) 0 d_M_array_129 rfl ?_
      refine gk_bipush (pc := 130) (16 : Int32) d_M_array_130 rfl ?_
      refine gk_iload (pc := 132) 3 d_M_array_132 rfl ?_
      refine gk_iload (pc := 134) 4 d_M_array_134 rfl ?_
      refine gk_iadd (pc := 136) d_M_array_136 ?_
      refine gk_imul (pc := 137) d_M_array_137 ?_
      refine gk_bipush (pc := 138) (16 : Int32) d_M_array_138 rfl ?_
      refine gk_iload (pc := 140) 3 d_M_array_140 rfl ?_
      refine gk_imul (pc := 142) d_M_array_142 ?_
      refine gk_iload (pc := 143) 4 d_M_array_143 rfl ?_
      refine gk_iadd (pc := 145) d_M_array_145 ?_
      refine gk_callV (pc := 146) (d := d) (w' := gv_V) (as := [.int ((16 : Int32) * (v4 + v5)), .int (((16 : Int32) * v4) + v5)]) (n := 2) 7 d_M_array_146 rfl rfl rfl rfl (Nat.le_of_ble_eq_true rfl) tw_1753 tw_1755 tw_16 tw_99 cw_M_copyCell hy_M_copyCell (Nat.le_of_ble_eq_true rfl) (p_M_copyCell d v0 ((16 : Int32) * (v4 + v5)) (((16 : Int32) * v4) + v5) h) fun _ h5 => ?_
      refine gk_iincN (pc := 149) 4 (1 : Int32) (L' := fun x4 => [(5, .int x4), (0, va_rf v0), (1, .int v1), (2, .int v2), (4, .int v4)]) d_M_array_149 rfl rfl (Nat.le_of_ble_eq_true rfl) (fun _ => rfl) fun x4 => ?_
      refine gk_goto (pc := 152) 121 d_M_array_152 rfl ?_
      refine gk_weak [1, 2, 3, 4, 0] (L' := [(0, va_rf v0), (1, .int v1), (2, .int v2), (4, .int v4), (5, .int x4)]) rfl ?_
      exact q121 v0 v1 v2 v4 x4 h5
theorem p_M_array_b97 (d : Nat)  (v0 : Option Nat) (v1 : Int32) (v2 : Int32) (s0 : Option Nat) (s1 : Int32) (h : gk_H) : gk_P gw_V (d + 1) y_M_array b_M_array 6 none [] (f_M_array_b97  v0 v1 v2 s0 s1 h) 97 [(0, va_rf v0), (1, .int v1), (2, .int v2)] [.int s1, va_rf s0] h := by
  unfold f_M_array_b97
  refine gk_putfield (pc := 97) 7 0 d_M_array_97 rfl (Nat.le_of_ble_eq_true rfl) tw_1645 (Or.inl rfl) fun h1 => ?_
  refine gk_aload_n (pc := 100) 0 d_M_array_100 rfl ?_
  refine gk_getI (pc := 101) 7 0 d_M_array_101 rfl (Nat.le_of_ble_eq_true rfl) tw_1645 fun x1 => ?_
  refine gk_if_le (pc := 104) 108 d_M_array_104 rfl (fun _ => ?_) (fun _ => ?_)
  · refine gk_aload_n (pc := 108) 0 d_M_array_108 rfl ?_
    refine gk_getI (pc := 109) 7 3 d_M_array_109 rfl (Nat.le_of_ble_eq_true rfl) tw_1648 fun x2 => ?_
    refine gk_iload_n (pc := 112) 1 d_M_array_112 rfl ?_
    refine gk_iload_n (pc := 113) 2 d_M_array_113 rfl ?_
    refine gk_imul (pc := 114) d_M_array_114 ?_
    refine gk_isub (pc := 115) d_M_array_115 ?_
    refine gk_topI (pc := 116) fun x3 => ?_
    refine gk_istore (pc := 116) (L' := [(4, .int x3), (0, va_rf v0), (1, .int v1), (2, .int v2)]) d_M_array_116 (Nat.le_of_ble_eq_true rfl) rfl ?_
    refine gk_iconst (pc := 118) (1 : Int32) d_M_array_118 rfl ?_
    refine gk_istore (pc := 119) (L' := [(5, .int (1 : Int32)), (4, .int x3), (0, va_rf v0), (1, .int v1), (2, .int v2)]) d_M_array_119 (Nat.le_of_ble_eq_true rfl) rfl ?_
    refine gk_weak [2, 3, 4, 1, 0] (L' := [(0, va_rf v0), (1, .int v1), (2, .int v2), (4, .int x3), (5, .int (1 : Int32))]) rfl ?_
    exact p_M_array_b121 d gk_F v0 v1 v2 x3 (1 : Int32) h1
  · exact gk_vret (pc := 107) rfl d_M_array_107 rfl
theorem p_M_array_b80 (d : Nat) (b51 : Option Nat → Int32 → Int32 → Int32 → Int32 → gk_H → Option (Unit × gk_H)) (q51 : ∀ (v0 : Option Nat) (v1 : Int32) (v2 : Int32) (v3 : Int32) (v4 : Int32) (h : gk_H), gk_P gw_V (d + 1) y_M_array b_M_array 6 none [] (b51 v0 v1 v2 v3 v4 h) 51 [(0, va_rf v0), (1, .int v1), (2, .int v2), (3, .int v3), (4, .int v4)] [] h) (v0 : Option Nat) (v1 : Int32) (v2 : Int32) (v4 : Int32) (s0 : Int32) (h : gk_H) : gk_P gw_V (d + 1) y_M_array b_M_array 6 none [] (f_M_array_b80 b51 v0 v1 v2 v4 s0 h) 80 [(0, va_rf v0), (1, .int v1), (2, .int v2), (4, .int v4)] [.int s0] h := by
  unfold f_M_array_b80
  refine gk_istore_n (pc := 80) (L' := [(3, .int s0), (0, va_rf v0), (1, .int v1), (2, .int v2), (4, .int v4)]) d_M_array_80 (Nat.le_of_ble_eq_true rfl) rfl ?_
  refine gk_iincN (pc := 81) 4 (1 : Int32) (L' := fun x1 => [(4, .int x1), (3, .int s0), (0, va_rf v0), (1, .int v1), (2, .int v2)]) d_M_array_81 rfl rfl (Nat.le_of_ble_eq_true rfl) (fun _ => rfl) fun x1 => ?_
  refine gk_goto (pc := 84) 51 d_M_array_84 rfl ?_
  refine gk_weak [2, 3, 4, 1, 0] (L' := [(0, va_rf v0), (1, .int v1), (2, .int v2), (3, .int s0), (4, .int x1)]) rfl ?_
  exact q51 v0 v1 v2 s0 x1 h
theorem p_M_array_b79 (d : Nat) (b51 : Option Nat → Int32 → Int32 → Int32 → Int32 → gk_H → Option (Unit × gk_H)) (q51 : ∀ (v0 : Option Nat) (v1 : Int32) (v2 : Int32) (v3 : Int32) (v4 : Int32) (h : gk_H), gk_P gw_V (d + 1) y_M_array b_M_array 6 none [] (b51 v0 v1 v2 v3 v4 h) 51 [(0, va_rf v0), (1, .int v1), (2, .int v2), (3, .int v3), (4, .int v4)] [] h) (v0 : Option Nat) (v1 : Int32) (v2 : Int32) (v4 : Int32) (h : gk_H) : gk_P gw_V (d + 1) y_M_array b_M_array 6 none [] (f_M_array_b79 b51 v0 v1 v2 v4 h) 79 [(0, va_rf v0), (1, .int v1), (2, .int v2), (4, .int v4)] [] h := by
  unfold f_M_array_b79
  refine gk_iconst (pc := 79) (0 : Int32) d_M_array_79 rfl ?_
  exact p_M_array_b80 d b51 q51 v0 v1 v2 v4 (0 : Int32) h
theorem p_M_array_b51 (d : Nat)  : ∀ (fu : Nat) (v0 : Option Nat) (v1 : Int32) (v2 : Int32) (v3 : Int32) (v4 : Int32) (h : gk_H), gk_P gw_V (d + 1) y_M_array b_M_array 6 none [] (f_M_array_b51  fu v0 v1 v2 v3 v4 h) 51 [(0, va_rf v0), (1, .int v1), (2, .int v2), (3, .int v3), (4, .int v4)] [] h := by
  intro fu
  induction fu with
  | zero => intros; exact gk_none
  | succ fu q51 =>
    intro v0 v1 v2 v3 v4 h
    rw [f_M_array_b51]
    refine gk_iload (pc := 51) 4 d_M_array_51 rfl ?_
    refine gk_aload_n (pc := 53) 0 d_M_array_53 rfl ?_
    refine gk_getI (pc := 54) 7 3 d_M_array_54 rfl (Nat.le_of_ble_eq_true rfl) tw_1648 fun x1 => ?_
    refine gk_icmp_ge (pc := 57) 87 d_M_array_57 rfl (fun _ => ?_) (fun _ => ?_)
    · refine gk_aload_n (pc := 87) 0 d_M_array_87 rfl ?_
      refine gk_iload_n (pc := 88) 3 d_M_array_88 rfl ?_
      refine gk_if_eq (pc := 89) 96 d_M_array_89 rfl (fun _ => ?_) (fun _ => ?_)
      · refine gk_iconst (pc := 96) (1 : Int32) d_M_array_96 rfl ?_
        refine gk_weak [0, 1, 2] (L' := [(0, va_rf v0), (1, .int v1), (2, .int v2)]) rfl ?_
        exact p_M_array_b97 d v0 v1 v2 v0 (1 : Int32) h
      · refine gk_iconst (pc := 92) (0 : Int32) d_M_array_92 rfl ?_
        refine gk_goto (pc := 93) 97 d_M_array_93 rfl ?_
        refine gk_weak [0, 1, 2] (L' := [(0, va_rf v0), (1, .int v1), (2, .int v2)]) rfl ?_
        exact p_M_array_b97 d v0 v1 v2 v0 (0 : Int32) h
    · refine gk_iload_n (pc := 60) 3 d_M_array_60 rfl ?_
      refine gk_if_eq (pc := 61) 79 d_M_array_61 rfl (fun _ => ?_) (fun _ => ?_)
      · refine gk_weak [0, 1, 2, 4] (L' := [(0, va_rf v0), (1, .int v1), (2, .int v2), (4, .int v4)]) rfl ?_
        exact p_M_array_b79 d (f_M_array_b51 fu) q51 v0 v1 v2 v4 h
      · refine gk_aload_n (pc := 64) 0 d_M_array_64 rfl ?_
        refine gk_getR (pc := 65) 7 4 d_M_array_65 rfl (Nat.le_of_ble_eq_true rfl) tw_1649 fun x2 => ?_
        refine gk_iload (pc := 68) 4 d_M_array_68 rfl ?_
        refine gk_iald (pc := 70) d_M_array_70 fun x3 => ?_
        refine gk_iconst (pc := 71) (5 : Int32) d_M_array_71 rfl ?_
        refine gk_icmp_ge (pc := 72) 79 d_M_array_72 rfl (fun _ => ?_) (fun _ => ?_)
        · refine gk_weak [0, 1, 2, 4] (L' := [(0, va_rf v0), (1, .int v1), (2, .int v2), (4, .int v4)]) rfl ?_
          exact p_M_array_b79 d (f_M_array_b51 fu) q51 v0 v1 v2 v4 h
        · refine gk_iconst (pc := 75) (1 : Int32) d_M_array_75 rfl ?_
          refine gk_goto (pc := 76) 80 d_M_array_76 rfl ?_
          refine gk_weak [0, 1, 2, 4] (L' := [(0, va_rf v0), (1, .int v1), (2, .int v2), (4, .int v4)]) rfl ?_
          exact p_M_array_b80 d (f_M_array_b51 fu) q51 v0 v1 v2 v4 (1 : Int32) h
theorem p_M_array_b49 (d : Nat)  (v0 : Option Nat) (v1 : Int32) (v2 : Int32) (v3 : Int32) (s0 : Int32) (h : gk_H) : gk_P gw_V (d + 1) y_M_array b_M_array 6 none [] (f_M_array_b49  v0 v1 v2 v3 s0 h) 49 [(0, va_rf v0), (1, .int v1), (2, .int v2), (3, .int v3)] [.int s0] h := by
  unfold f_M_array_b49
  refine gk_istore (pc := 49) (L' := [(4, .int s0), (0, va_rf v0), (1, .int v1), (2, .int v2), (3, .int v3)]) d_M_array_49 (Nat.le_of_ble_eq_true rfl) rfl ?_
  refine gk_weak [1, 2, 3, 4, 0] (L' := [(0, va_rf v0), (1, .int v1), (2, .int v2), (3, .int v3), (4, .int s0)]) rfl ?_
  exact p_M_array_b51 d gk_F v0 v1 v2 v3 s0 h
theorem p_M_array_b29 (d : Nat)  (v0 : Option Nat) (v1 : Int32) (v2 : Int32) (s0 : Int32) (h : gk_H) : gk_P gw_V (d + 1) y_M_array b_M_array 6 none [] (f_M_array_b29  v0 v1 v2 s0 h) 29 [(0, va_rf v0), (1, .int v1), (2, .int v2)] [.int s0] h := by
  unfold f_M_array_b29
  refine gk_istore_n (pc := 29) (L' := [(3, .int s0), (0, va_rf v0), (1, .int v1), (2, .int v2)]) d_M_array_29 (Nat.le_of_ble_eq_true rfl) rfl ?_
  refine gk_iload_n (pc := 30) 0 d_M_array_30 rfl ?_
  refine gk_if_eq (pc := 31) 45 d_M_array_31 rfl (fun _ => ?_) (fun _ => ?_)
  · refine gk_aload_n (pc := 45) 1 d_M_array_45 rfl ?_
    refine gk_getI (pc := 46) 7 3 d_M_array_46 rfl (Nat.le_of_ble_eq_true rfl) tw_1648 fun x1 => ?_
    refine gk_weak [1, 2, 3, 0] (L' := [(0, va_rf v0), (1, .int v1), (2, .int v2), (3, .int s0)]) rfl ?_
    exact p_M_array_b49 d v0 v1 v2 s0 x1 h
  · refine gk_aload_n (pc := 34) 1 d_M_array_34 rfl ?_
    refine gk_getI (pc := 35) 7 3 d_M_array_35 rfl (Nat.le_of_ble_eq_true rfl) tw_1648 fun x2 => ?_
    refine gk_iload_n (pc := 38) 2 d_M_array_38 rfl ?_
    refine gk_iload_n (pc := 39) 3 d_M_array_39 rfl ?_
    refine gk_imul (pc := 40) d_M_array_40 ?_
    refine gk_isub (pc := 41) d_M_array_41 ?_
    refine gk_goto (pc := 42) 49 d_M_array_42 rfl ?_
    refine gk_weak [1, 2, 3, 0] (L' := [(0, va_rf v0), (1, .int v1), (2, .int v2), (3, .int s0)]) rfl ?_
    exact p_M_array_b49 d v0 v1 v2 s0 (x2 - (v1 * v2)) h
theorem p_M_array_b28 (d : Nat)  (v0 : Option Nat) (v1 : Int32) (v2 : Int32) (h : gk_H) : gk_P gw_V (d + 1) y_M_array b_M_array 6 none [] (f_M_array_b28  v0 v1 v2 h) 28 [(0, va_rf v0), (1, .int v1), (2, .int v2)] [] h := by
  unfold f_M_array_b28
  refine gk_iconst (pc := 28) (0 : Int32) d_M_array_28 rfl ?_
  exact p_M_array_b29 d v0 v1 v2 (0 : Int32) h
theorem w_M_array (d : Nat) (a0 : Option Nat) (a1 : Int32) (a2 : Int32) (h : gk_H) : gk_P gw_V (d + 1) y_M_array b_M_array 6 none [] (f_M_array a0 a1 a2 h) 0 [(0, va_rf a0), (1, .int a1), (2, .int a2)] [] h := by
  unfold f_M_array
  refine gk_iload_n (pc := 0) 1 d_M_array_0 rfl ?_
  refine gk_iconst (pc := 1) (1 : Int32) d_M_array_1 rfl ?_
  refine gk_icmp_lt (pc := 2) 28 d_M_array_2 rfl (fun _ => ?_) (fun _ => ?_)
  · exact p_M_array_b28 d a0 a1 a2 h
  · refine gk_iload_n (pc := 5) 2 d_M_array_5 rfl ?_
    refine gk_iconst (pc := 6) (1 : Int32) d_M_array_6 rfl ?_
    refine gk_icmp_lt (pc := 7) 28 d_M_array_7 rfl (fun _ => ?_) (fun _ => ?_)
    · exact p_M_array_b28 d a0 a1 a2 h
    · refine gk_iload_n (pc := 10) 1 d_M_array_10 rfl ?_
      refine gk_i2l (pc := 11) d_M_array_11 ?_
      refine gk_iload_n (pc := 12) 2 d_M_array_12 rfl ?_
      refine gk_i2l (pc := 13) d_M_array_13 ?_
      refine gk_lmul (pc := 14) d_M_array_14 ?_
      refine gk_aload_n (pc := 15) 0 d_M_array_15 rfl ?_
      refine gk_getI (pc := 16) 7 3 d_M_array_16 rfl (Nat.le_of_ble_eq_true rfl) tw_1648 fun x1 => ?_
      refine gk_i2l (pc := 19) d_M_array_19 ?_
      refine gk_lcmp (pc := 20) d_M_array_20 ?_
      refine gk_if_gt (pc := 21) 28 d_M_array_21 rfl (fun _ => ?_) (fun _ => ?_)
      · exact p_M_array_b28 d a0 a1 a2 h
      · refine gk_iconst (pc := 24) (1 : Int32) d_M_array_24 rfl ?_
        refine gk_goto (pc := 25) 29 d_M_array_25 rfl ?_
        exact p_M_array_b29 d a0 a1 a2 (1 : Int32) h
theorem p_M_array (d : Nat) (a0 : Option Nat) (a1 : Int32) (a2 : Int32) (h : gk_H) : ∀ r h1, f_M_array a0 a1 a2 h = some (r, h1) → gk_M (d + 1) y_M_array b_M_array 6 none [va_rf a0, .int a1, .int a2] h (.inl (gv_V r)) h1 :=
  fun r h1 e => gk_M_of2 (by decide +kernel) (by simp [lv_args, gk_cat_rf, gk_catI, gk_catJ, gk_catD, gv_V, gv_I, gv_J, gv_D, gv_R]) (by simp [lg_sl, gk_cat_rf, gk_catI, gk_catJ, gk_catD, gv_V, gv_I, gv_J, gv_D, gv_R]) (w_M_array d a0 a1 a2 h r h1 e)
theorem d_M_drop_0 : decode b_M_drop 0 = .ok (.aload_n 0, 1) := by decide +kernel
theorem d_M_drop_1 : decode b_M_drop 1 = .ok (.aload_n 0, 1) := by decide +kernel
theorem d_M_drop_2 : decode b_M_drop 2 = .ok (.getfield 69, 3) := by decide +kernel
theorem d_M_drop_5 : decode b_M_drop 5 = .ok (.ifCond .ne 7, 3) := by decide +kernel
theorem d_M_drop_8 : decode b_M_drop 8 = .ok (.iconst 1, 1) := by decide +kernel
theorem d_M_drop_9 : decode b_M_drop 9 = .ok (.goto 4, 3) := by decide +kernel
theorem d_M_drop_12 : decode b_M_drop 12 = .ok (.iconst 0, 1) := by decide +kernel
theorem d_M_drop_13 : decode b_M_drop 13 = .ok (.putfield 46, 3) := by decide +kernel
theorem d_M_drop_16 : decode b_M_drop 16 = .ok (.aload_n 0, 1) := by decide +kernel
theorem d_M_drop_17 : decode b_M_drop 17 = .ok (.getfield 46, 3) := by decide +kernel
theorem d_M_drop_20 : decode b_M_drop 20 = .ok (.ifCond .ne 13, 3) := by decide +kernel
theorem d_M_drop_23 : decode b_M_drop 23 = .ok (.aload_n 0, 1) := by decide +kernel
theorem d_M_drop_24 : decode b_M_drop 24 = .ok (.dup, 1) := by decide +kernel
theorem d_M_drop_25 : decode b_M_drop 25 = .ok (.getfield 69, 3) := by decide +kernel
theorem d_M_drop_28 : decode b_M_drop 28 = .ok (.iconst 1, 1) := by decide +kernel
theorem d_M_drop_29 : decode b_M_drop 29 = .ok (.isub, 1) := by decide +kernel
theorem d_M_drop_30 : decode b_M_drop 30 = .ok (.putfield 69, 3) := by decide +kernel
theorem d_M_drop_33 : decode b_M_drop 33 = .ok (.return_, 1) := by decide +kernel
theorem p_M_drop_b33 (d : Nat)   (h : gk_H) : gk_P gw_V d y_M_drop b_M_drop 1 none [] (f_M_drop_b33   h) 33 [] [] h := by
  unfold f_M_drop_b33
  exact gk_vret (pc := 33) rfl d_M_drop_33 rfl
theorem p_M_drop_b13 (d : Nat)  (v0 : Option Nat) (s0 : Option Nat) (s1 : Int32) (h : gk_H) : gk_P gw_V d y_M_drop b_M_drop 1 none [] (f_M_drop_b13  v0 s0 s1 h) 13 [(0, va_rf v0)] [.int s1, va_rf s0] h := by
  unfold f_M_drop_b13
  refine gk_putfield (pc := 13) 7 0 d_M_drop_13 rfl (Nat.le_of_ble_eq_true rfl) tw_1645 (Or.inl rfl) fun h1 => ?_
  refine gk_aload_n (pc := 16) 0 d_M_drop_16 rfl ?_
  refine gk_getI (pc := 17) 7 0 d_M_drop_17 rfl (Nat.le_of_ble_eq_true rfl) tw_1645 fun x1 => ?_
  refine gk_if_ne (pc := 20) 33 d_M_drop_20 rfl (fun _ => ?_) (fun _ => ?_)
  · refine gk_aload_n (pc := 23) 0 d_M_drop_23 rfl ?_
    refine gk_dup (pc := 24) d_M_drop_24 (gk_cat_rf _) ?_
    refine gk_getI (pc := 25) 7 3 d_M_drop_25 rfl (Nat.le_of_ble_eq_true rfl) tw_1648 fun x2 => ?_
    refine gk_iconst (pc := 28) (1 : Int32) d_M_drop_28 rfl ?_
    refine gk_isub (pc := 29) d_M_drop_29 ?_
    refine gk_putfield (pc := 30) 7 3 d_M_drop_30 rfl (Nat.le_of_ble_eq_true rfl) tw_1648 (Or.inl rfl) fun h2 => ?_
    refine gk_weak [] (L' := []) rfl ?_
    exact p_M_drop_b33 d h2
  · refine gk_weak [] (L' := []) rfl ?_
    exact p_M_drop_b33 d h1
theorem w_M_drop (d : Nat) (a0 : Option Nat) (h : gk_H) : gk_P gw_V d y_M_drop b_M_drop 1 none [] (f_M_drop a0 h) 0 [(0, va_rf a0)] [] h := by
  unfold f_M_drop
  refine gk_aload_n (pc := 0) 0 d_M_drop_0 rfl ?_
  refine gk_aload_n (pc := 1) 0 d_M_drop_1 rfl ?_
  refine gk_getI (pc := 2) 7 3 d_M_drop_2 rfl (Nat.le_of_ble_eq_true rfl) tw_1648 fun x1 => ?_
  refine gk_if_ne (pc := 5) 12 d_M_drop_5 rfl (fun _ => ?_) (fun _ => ?_)
  · refine gk_iconst (pc := 8) (1 : Int32) d_M_drop_8 rfl ?_
    refine gk_goto (pc := 9) 13 d_M_drop_9 rfl ?_
    exact p_M_drop_b13 d a0 a0 (1 : Int32) h
  · refine gk_iconst (pc := 12) (0 : Int32) d_M_drop_12 rfl ?_
    exact p_M_drop_b13 d a0 a0 (0 : Int32) h
theorem p_M_drop (d : Nat) (a0 : Option Nat) (h : gk_H) : ∀ r h1, f_M_drop a0 h = some (r, h1) → gk_M d y_M_drop b_M_drop 1 none [va_rf a0] h (.inl (gv_V r)) h1 :=
  fun r h1 e => gk_M_of2 (by decide +kernel) (by simp [lv_args, gk_cat_rf, gk_catI, gk_catJ, gk_catD, gv_V, gv_I, gv_J, gv_D, gv_R]) (by simp [lg_sl, gk_cat_rf, gk_catI, gk_catJ, gk_catD, gv_V, gv_I, gv_J, gv_D, gv_R]) (w_M_drop d a0 h r h1 e)
theorem d_M_copyValue_0 : decode b_M_copyValue 0 = .ok (.iload_n 1, 1) := by decide +kernel
theorem d_M_copyValue_1 : decode b_M_copyValue 1 = .ok (.iload_n 2, 1) := by decide +kernel
theorem d_M_copyValue_2 : decode b_M_copyValue 2 = .ok (.if_icmp .ne 4, 3) := by decide +kernel
theorem d_M_copyValue_5 : decode b_M_copyValue 5 = .ok (.return_, 1) := by decide +kernel
theorem d_M_copyValue_6 : decode b_M_copyValue 6 = .ok (.aload_n 0, 1) := by decide +kernel
theorem d_M_copyValue_7 : decode b_M_copyValue 7 = .ok (.getfield 13, 3) := by decide +kernel
theorem d_M_copyValue_10 : decode b_M_copyValue 10 = .ok (.iload_n 2, 1) := by decide +kernel
theorem d_M_copyValue_11 : decode b_M_copyValue 11 = .ok (.aload_n 0, 1) := by decide +kernel
theorem d_M_copyValue_12 : decode b_M_copyValue 12 = .ok (.getfield 13, 3) := by decide +kernel
theorem d_M_copyValue_15 : decode b_M_copyValue 15 = .ok (.iload_n 1, 1) := by decide +kernel
theorem d_M_copyValue_16 : decode b_M_copyValue 16 = .ok (.iaload, 1) := by decide +kernel
theorem d_M_copyValue_17 : decode b_M_copyValue 17 = .ok (.iastore, 1) := by decide +kernel
theorem d_M_copyValue_18 : decode b_M_copyValue 18 = .ok (.aload_n 0, 1) := by decide +kernel
theorem d_M_copyValue_19 : decode b_M_copyValue 19 = .ok (.getfield 17, 3) := by decide +kernel
theorem d_M_copyValue_22 : decode b_M_copyValue 22 = .ok (.iload_n 2, 1) := by decide +kernel
theorem d_M_copyValue_23 : decode b_M_copyValue 23 = .ok (.aload_n 0, 1) := by decide +kernel
theorem d_M_copyValue_24 : decode b_M_copyValue 24 = .ok (.getfield 17, 3) := by decide +kernel
theorem d_M_copyValue_27 : decode b_M_copyValue 27 = .ok (.iload_n 1, 1) := by decide +kernel
theorem d_M_copyValue_28 : decode b_M_copyValue 28 = .ok (.iaload, 1) := by decide +kernel
theorem d_M_copyValue_29 : decode b_M_copyValue 29 = .ok (.iastore, 1) := by decide +kernel
theorem d_M_copyValue_30 : decode b_M_copyValue 30 = .ok (.aload_n 0, 1) := by decide +kernel
theorem d_M_copyValue_31 : decode b_M_copyValue 31 = .ok (.getfield 20, 3) := by decide +kernel
theorem d_M_copyValue_34 : decode b_M_copyValue 34 = .ok (.iload_n 2, 1) := by decide +kernel
theorem d_M_copyValue_35 : decode b_M_copyValue 35 = .ok (.aload_n 0, 1) := by decide +kernel
theorem d_M_copyValue_36 : decode b_M_copyValue 36 = .ok (.getfield 20, 3) := by decide +kernel
theorem d_M_copyValue_39 : decode b_M_copyValue 39 = .ok (.iload_n 1, 1) := by decide +kernel
theorem d_M_copyValue_40 : decode b_M_copyValue 40 = .ok (.iaload, 1) := by decide +kernel
theorem d_M_copyValue_41 : decode b_M_copyValue 41 = .ok (.iastore, 1) := by decide +kernel
theorem d_M_copyValue_42 : decode b_M_copyValue 42 = .ok (.iconst 0, 1) := by decide +kernel
theorem d_M_copyValue_43 : decode b_M_copyValue 43 = .ok (.istore_n 3, 1) := by decide +kernel
theorem d_M_copyValue_44 : decode b_M_copyValue 44 = .ok (.iload_n 3, 1) := by decide +kernel
theorem d_M_copyValue_45 : decode b_M_copyValue 45 = .ok (.aload_n 0, 1) := by decide +kernel
theorem d_M_copyValue_46 : decode b_M_copyValue 46 = .ok (.getfield 17, 3) := by decide +kernel
theorem d_M_copyValue_49 : decode b_M_copyValue 49 = .ok (.iload_n 1, 1) := by decide +kernel
theorem d_M_copyValue_50 : decode b_M_copyValue 50 = .ok (.iaload, 1) := by decide +kernel
theorem d_M_copyValue_51 : decode b_M_copyValue 51 = .ok (.aload_n 0, 1) := by decide +kernel
theorem d_M_copyValue_52 : decode b_M_copyValue 52 = .ok (.getfield 20, 3) := by decide +kernel
theorem d_M_copyValue_55 : decode b_M_copyValue 55 = .ok (.iload_n 1, 1) := by decide +kernel
theorem d_M_copyValue_56 : decode b_M_copyValue 56 = .ok (.iaload, 1) := by decide +kernel
theorem d_M_copyValue_57 : decode b_M_copyValue 57 = .ok (.imul, 1) := by decide +kernel
theorem d_M_copyValue_58 : decode b_M_copyValue 58 = .ok (.if_icmp .ge 25, 3) := by decide +kernel
theorem d_M_copyValue_61 : decode b_M_copyValue 61 = .ok (.aload_n 0, 1) := by decide +kernel
theorem d_M_copyValue_62 : decode b_M_copyValue 62 = .ok (.bipush 16, 2) := by decide +kernel
theorem d_M_copyValue_64 : decode b_M_copyValue 64 = .ok (.iload_n 1, 1) := by decide +kernel
theorem d_M_copyValue_65 : decode b_M_copyValue 65 = .ok (.imul, 1) := by decide +kernel
theorem d_M_copyValue_66 : decode b_M_copyValue 66 = .ok (.iload_n 3, 1) := by decide +kernel
theorem d_M_copyValue_67 : decode b_M_copyValue 67 = .ok (.iadd, 1) := by decide +kernel
theorem d_M_copyValue_68 : decode b_M_copyValue 68 = .ok (.bipush 16, 2) := by decide +kernel
theorem d_M_copyValue_70 : decode b_M_copyValue 70 = .ok (.iload_n 2, 1) := by decide +kernel
theorem d_M_copyValue_71 : decode b_M_copyValue 71 = .ok (.imul, 1) := by decide +kernel
theorem d_M_copyValue_72 : decode b_M_copyValue 72 = .ok (.iload_n 3, 1) := by decide +kernel
theorem d_M_copyValue_73 : decode b_M_copyValue 73 = .ok (.iadd, 1) := by decide +kernel
theorem d_M_copyValue_74 : decode b_M_copyValue 74 = .ok (.invokevirtual 65, 3) := by decide +kernel
theorem d_M_copyValue_77 : decode b_M_copyValue 77 = .ok (.iinc 3 1, 3) := by decide +kernel
theorem d_M_copyValue_80 : decode b_M_copyValue 80 = .ok (.goto (-36), 3) := by decide +kernel
theorem d_M_copyValue_83 : decode b_M_copyValue 83 = .ok (.return_, 1) := by decide +kernel
theorem p_M_copyValue_b44 (d : Nat)  : ∀ (fu : Nat) (v0 : Option Nat) (v1 : Int32) (v2 : Int32) (v3 : Int32) (h : gk_H), gk_P gw_V (d + 1) y_M_copyValue b_M_copyValue 4 none [] (f_M_copyValue_b44  fu v0 v1 v2 v3 h) 44 [(0, va_rf v0), (1, .int v1), (2, .int v2), (3, .int v3)] [] h := by
  intro fu
  induction fu with
  | zero => intros; exact gk_none
  | succ fu q44 =>
    intro v0 v1 v2 v3 h
    rw [f_M_copyValue_b44]
    refine gk_iload_n (pc := 44) 3 d_M_copyValue_44 rfl ?_
    refine gk_aload_n (pc := 45) 0 d_M_copyValue_45 rfl ?_
    refine gk_getR (pc := 46) 7 5 d_M_copyValue_46 rfl (Nat.le_of_ble_eq_true rfl) tw_1650 fun x1 => ?_
    refine gk_iload_n (pc := 49) 1 d_M_copyValue_49 rfl ?_
    refine gk_iald (pc := 50) d_M_copyValue_50 fun x2 => ?_
    refine gk_aload_n (pc := 51) 0 d_M_copyValue_51 rfl ?_
    refine gk_getR (pc := 52) 7 6 d_M_copyValue_52 rfl (Nat.le_of_ble_eq_true rfl) tw_1651 fun x3 => ?_
    refine gk_iload_n (pc := 55) 1 d_M_copyValue_55 rfl ?_
    refine gk_iald (pc := 56) d_M_copyValue_56 fun x4 => ?_
    refine gk_imul (pc := 57) d_M_copyValue_57 ?_
    refine gk_icmp_ge (pc := 58) 83 d_M_copyValue_58 rfl (fun _ => ?_) (fun _ => ?_)
    · exact gk_vret (pc := 83) rfl d_M_copyValue_83 rfl
    · refine gk_aload_n (pc := 61) 0 d_M_copyValue_61 rfl ?_
      refine gk_bipush (pc := 62) (16 : Int32) d_M_copyValue_62 rfl ?_
      refine gk_iload_n (pc := 64) 1 d_M_copyValue_64 rfl ?_
      refine gk_imul (pc := 65) d_M_copyValue_65 ?_
      refine gk_iload_n (pc := 66) 3 d_M_copyValue_66 rfl ?_
      refine gk_iadd (pc := 67) d_M_copyValue_67 ?_
      refine gk_bipush (pc := 68) (16 : Int32) d_M_copyValue_68 rfl ?_
      refine gk_iload_n (pc := 70) 2 d_M_copyValue_70 rfl ?_
      refine gk_imul (pc := 71) d_M_copyValue_71 ?_
      refine gk_iload_n (pc := 72) 3 d_M_copyValue_72 rfl ?_
      refine gk_iadd (pc := 73) d_M_copyValue_73 ?_
      refine gk_callV (pc := 74) (d := d) (w' := gv_V) (as := [.int (((16 : Int32) * v1) + v3), .int (((16 : Int32) * v2) + v3)]) (n := 2) 7 d_M_copyValue_74 rfl rfl rfl rfl (Nat.le_of_ble_eq_true rfl) tw_1753 tw_1755 tw_16 tw_99 cw_M_copyCell hy_M_copyCell (Nat.le_of_ble_eq_true rfl) (p_M_copyCell d v0 (((16 : Int32) * v1) + v3) (((16 : Int32) * v2) + v3) h) fun _ h1 => ?_
      refine gk_iincN (pc := 77) 3 (1 : Int32) (L' := fun x5 => [(3, .int x5), (0, va_rf v0), (1, .int v1), (2, .int v2)]) d_M_copyValue_77 rfl rfl (Nat.le_of_ble_eq_true rfl) (fun _ => rfl) fun x5 => ?_
      refine gk_goto (pc := 80) 44 d_M_copyValue_80 rfl ?_
      refine gk_weak [1, 2, 3, 0] (L' := [(0, va_rf v0), (1, .int v1), (2, .int v2), (3, .int x5)]) rfl ?_
      exact q44 v0 v1 v2 x5 h1
theorem w_M_copyValue (d : Nat) (a0 : Option Nat) (a1 : Int32) (a2 : Int32) (h : gk_H) : gk_P gw_V (d + 1) y_M_copyValue b_M_copyValue 4 none [] (f_M_copyValue a0 a1 a2 h) 0 [(0, va_rf a0), (1, .int a1), (2, .int a2)] [] h := by
  unfold f_M_copyValue
  refine gk_iload_n (pc := 0) 1 d_M_copyValue_0 rfl ?_
  refine gk_iload_n (pc := 1) 2 d_M_copyValue_1 rfl ?_
  refine gk_icmp_ne (pc := 2) 6 d_M_copyValue_2 rfl (fun _ => ?_) (fun _ => ?_)
  · exact gk_vret (pc := 5) rfl d_M_copyValue_5 rfl
  · refine gk_aload_n (pc := 6) 0 d_M_copyValue_6 rfl ?_
    refine gk_getR (pc := 7) 7 4 d_M_copyValue_7 rfl (Nat.le_of_ble_eq_true rfl) tw_1649 fun x1 => ?_
    refine gk_iload_n (pc := 10) 2 d_M_copyValue_10 rfl ?_
    refine gk_aload_n (pc := 11) 0 d_M_copyValue_11 rfl ?_
    refine gk_getR (pc := 12) 7 4 d_M_copyValue_12 rfl (Nat.le_of_ble_eq_true rfl) tw_1649 fun x2 => ?_
    refine gk_iload_n (pc := 15) 1 d_M_copyValue_15 rfl ?_
    refine gk_iald (pc := 16) d_M_copyValue_16 fun x3 => ?_
    refine gk_iast (pc := 17) d_M_copyValue_17 fun h1 => ?_
    refine gk_aload_n (pc := 18) 0 d_M_copyValue_18 rfl ?_
    refine gk_getR (pc := 19) 7 5 d_M_copyValue_19 rfl (Nat.le_of_ble_eq_true rfl) tw_1650 fun x4 => ?_
    refine gk_iload_n (pc := 22) 2 d_M_copyValue_22 rfl ?_
    refine gk_aload_n (pc := 23) 0 d_M_copyValue_23 rfl ?_
    refine gk_getR (pc := 24) 7 5 d_M_copyValue_24 rfl (Nat.le_of_ble_eq_true rfl) tw_1650 fun x5 => ?_
    refine gk_iload_n (pc := 27) 1 d_M_copyValue_27 rfl ?_
    refine gk_iald (pc := 28) d_M_copyValue_28 fun x6 => ?_
    refine gk_iast (pc := 29) d_M_copyValue_29 fun h2 => ?_
    refine gk_aload_n (pc := 30) 0 d_M_copyValue_30 rfl ?_
    refine gk_getR (pc := 31) 7 6 d_M_copyValue_31 rfl (Nat.le_of_ble_eq_true rfl) tw_1651 fun x7 => ?_
    refine gk_iload_n (pc := 34) 2 d_M_copyValue_34 rfl ?_
    refine gk_aload_n (pc := 35) 0 d_M_copyValue_35 rfl ?_
    refine gk_getR (pc := 36) 7 6 d_M_copyValue_36 rfl (Nat.le_of_ble_eq_true rfl) tw_1651 fun x8 => ?_
    refine gk_iload_n (pc := 39) 1 d_M_copyValue_39 rfl ?_
    refine gk_iald (pc := 40) d_M_copyValue_40 fun x9 => ?_
    refine gk_iast (pc := 41) d_M_copyValue_41 fun h3 => ?_
    refine gk_iconst (pc := 42) (0 : Int32) d_M_copyValue_42 rfl ?_
    refine gk_istore_n (pc := 43) (L' := [(3, .int (0 : Int32)), (0, va_rf a0), (1, .int a1), (2, .int a2)]) d_M_copyValue_43 (Nat.le_of_ble_eq_true rfl) rfl ?_
    refine gk_weak [1, 2, 3, 0] (L' := [(0, va_rf a0), (1, .int a1), (2, .int a2), (3, .int (0 : Int32))]) rfl ?_
    exact p_M_copyValue_b44 d gk_F a0 a1 a2 (0 : Int32) h3
theorem p_M_copyValue (d : Nat) (a0 : Option Nat) (a1 : Int32) (a2 : Int32) (h : gk_H) : ∀ r h1, f_M_copyValue a0 a1 a2 h = some (r, h1) → gk_M (d + 1) y_M_copyValue b_M_copyValue 4 none [va_rf a0, .int a1, .int a2] h (.inl (gv_V r)) h1 :=
  fun r h1 e => gk_M_of2 (by decide +kernel) (by simp [lv_args, gk_cat_rf, gk_catI, gk_catJ, gk_catD, gv_V, gv_I, gv_J, gv_D, gv_R]) (by simp [lg_sl, gk_cat_rf, gk_catI, gk_catJ, gk_catD, gv_V, gv_I, gv_J, gv_D, gv_R]) (w_M_copyValue d a0 a1 a2 h r h1 e)
theorem d_M_again_0 : decode b_M_again 0 = .ok (.iload_n 1, 1) := by decide +kernel
theorem d_M_again_1 : decode b_M_again 1 = .ok (.ifCond .lt 11, 3) := by decide +kernel
theorem d_M_again_4 : decode b_M_again 4 = .ok (.iload_n 1, 1) := by decide +kernel
theorem d_M_again_5 : decode b_M_again 5 = .ok (.aload_n 0, 1) := by decide +kernel
theorem d_M_again_6 : decode b_M_again 6 = .ok (.getfield 69, 3) := by decide +kernel
theorem d_M_again_9 : decode b_M_again 9 = .ok (.if_icmp .lt 7, 3) := by decide +kernel
theorem d_M_again_12 : decode b_M_again 12 = .ok (.iconst (-1), 1) := by decide +kernel
theorem d_M_again_13 : decode b_M_again 13 = .ok (.goto 11, 3) := by decide +kernel
theorem d_M_again_16 : decode b_M_again 16 = .ok (.aload_n 0, 1) := by decide +kernel
theorem d_M_again_17 : decode b_M_again 17 = .ok (.getfield 69, 3) := by decide +kernel
theorem d_M_again_20 : decode b_M_again 20 = .ok (.iconst 1, 1) := by decide +kernel
theorem d_M_again_21 : decode b_M_again 21 = .ok (.isub, 1) := by decide +kernel
theorem d_M_again_22 : decode b_M_again 22 = .ok (.iload_n 1, 1) := by decide +kernel
theorem d_M_again_23 : decode b_M_again 23 = .ok (.isub, 1) := by decide +kernel
theorem d_M_again_24 : decode b_M_again 24 = .ok (.istore_n 2, 1) := by decide +kernel
theorem d_M_again_25 : decode b_M_again 25 = .ok (.aload_n 0, 1) := by decide +kernel
theorem d_M_again_26 : decode b_M_again 26 = .ok (.iload_n 2, 1) := by decide +kernel
theorem d_M_again_27 : decode b_M_again 27 = .ok (.ifCond .ge 7, 3) := by decide +kernel
theorem d_M_again_30 : decode b_M_again 30 = .ok (.iconst 1, 1) := by decide +kernel
theorem d_M_again_31 : decode b_M_again 31 = .ok (.goto 28, 3) := by decide +kernel
theorem d_M_again_34 : decode b_M_again 34 = .ok (.aload_n 0, 1) := by decide +kernel
theorem d_M_again_35 : decode b_M_again 35 = .ok (.aload_n 0, 1) := by decide +kernel
theorem d_M_again_36 : decode b_M_again 36 = .ok (.getfield 17, 3) := by decide +kernel
theorem d_M_again_39 : decode b_M_again 39 = .ok (.iload_n 2, 1) := by decide +kernel
theorem d_M_again_40 : decode b_M_again 40 = .ok (.iaload, 1) := by decide +kernel
theorem d_M_again_41 : decode b_M_again 41 = .ok (.aload_n 0, 1) := by decide +kernel
theorem d_M_again_42 : decode b_M_again 42 = .ok (.getfield 20, 3) := by decide +kernel
theorem d_M_again_45 : decode b_M_again 45 = .ok (.iload_n 2, 1) := by decide +kernel
theorem d_M_again_46 : decode b_M_again 46 = .ok (.iaload, 1) := by decide +kernel
theorem d_M_again_47 : decode b_M_again 47 = .ok (.imul, 1) := by decide +kernel
theorem d_M_again_48 : decode b_M_again 48 = .ok (.invokevirtual 72, 3) := by decide +kernel
theorem d_M_again_51 : decode b_M_again 51 = .ok (.ifCond .eq 7, 3) := by decide +kernel
theorem d_M_again_54 : decode b_M_again 54 = .ok (.iconst 2, 1) := by decide +kernel
theorem d_M_again_55 : decode b_M_again 55 = .ok (.goto 4, 3) := by decide +kernel
theorem d_M_again_58 : decode b_M_again 58 = .ok (.iconst 0, 1) := by decide +kernel
theorem d_M_again_59 : decode b_M_again 59 = .ok (.putfield 46, 3) := by decide +kernel
theorem d_M_again_62 : decode b_M_again 62 = .ok (.aload_n 0, 1) := by decide +kernel
theorem d_M_again_63 : decode b_M_again 63 = .ok (.getfield 46, 3) := by decide +kernel
theorem d_M_again_66 : decode b_M_again 66 = .ok (.ifCond .le 4, 3) := by decide +kernel
theorem d_M_again_69 : decode b_M_again 69 = .ok (.return_, 1) := by decide +kernel
theorem d_M_again_70 : decode b_M_again 70 = .ok (.aload_n 0, 1) := by decide +kernel
theorem d_M_again_71 : decode b_M_again 71 = .ok (.iload_n 2, 1) := by decide +kernel
theorem d_M_again_72 : decode b_M_again 72 = .ok (.aload_n 0, 1) := by decide +kernel
theorem d_M_again_73 : decode b_M_again 73 = .ok (.getfield 69, 3) := by decide +kernel
theorem d_M_again_76 : decode b_M_again 76 = .ok (.invokevirtual 83, 3) := by decide +kernel
theorem d_M_again_79 : decode b_M_again 79 = .ok (.aload_n 0, 1) := by decide +kernel
theorem d_M_again_80 : decode b_M_again 80 = .ok (.dup, 1) := by decide +kernel
theorem d_M_again_81 : decode b_M_again 81 = .ok (.getfield 69, 3) := by decide +kernel
theorem d_M_again_84 : decode b_M_again 84 = .ok (.iconst 1, 1) := by decide +kernel
theorem d_M_again_85 : decode b_M_again 85 = .ok (.iadd, 1) := by decide +kernel
theorem d_M_again_86 : decode b_M_again 86 = .ok (.putfield 69, 3) := by decide +kernel
theorem d_M_again_89 : decode b_M_again 89 = .ok (.return_, 1) := by decide +kernel
theorem p_M_again_b59 (d : Nat)  (v0 : Option Nat) (v2 : Int32) (s0 : Option Nat) (s1 : Int32) (h : gk_H) : gk_P gw_V (d + 2) y_M_again b_M_again 3 none [] (f_M_again_b59  v0 v2 s0 s1 h) 59 [(0, va_rf v0), (2, .int v2)] [.int s1, va_rf s0] h := by
  unfold f_M_again_b59
  refine gk_putfield (pc := 59) 7 0 d_M_again_59 rfl (Nat.le_of_ble_eq_true rfl) tw_1645 (Or.inl rfl) fun h1 => ?_
  refine gk_aload_n (pc := 62) 0 d_M_again_62 rfl ?_
  refine gk_getI (pc := 63) 7 0 d_M_again_63 rfl (Nat.le_of_ble_eq_true rfl) tw_1645 fun x1 => ?_
  refine gk_if_le (pc := 66) 70 d_M_again_66 rfl (fun _ => ?_) (fun _ => ?_)
  · refine gk_aload_n (pc := 70) 0 d_M_again_70 rfl ?_
    refine gk_iload_n (pc := 71) 1 d_M_again_71 rfl ?_
    refine gk_aload_n (pc := 72) 0 d_M_again_72 rfl ?_
    refine gk_getI (pc := 73) 7 3 d_M_again_73 rfl (Nat.le_of_ble_eq_true rfl) tw_1648 fun x2 => ?_
    refine gk_callV (pc := 76) (d := (d + 1)) (w' := gv_V) (as := [.int v2, .int x2]) (n := 2) 7 d_M_again_76 rfl rfl rfl rfl (Nat.le_of_ble_eq_true rfl) tw_1765 tw_1767 tw_17 tw_99 cw_M_copyValue hy_M_copyValue (Nat.le_of_ble_eq_true rfl) (p_M_copyValue d v0 v2 x2 h1) fun _ h2 => ?_
    refine gk_aload_n (pc := 79) 0 d_M_again_79 rfl ?_
    refine gk_dup (pc := 80) d_M_again_80 (gk_cat_rf _) ?_
    refine gk_getI (pc := 81) 7 3 d_M_again_81 rfl (Nat.le_of_ble_eq_true rfl) tw_1648 fun x3 => ?_
    refine gk_iconst (pc := 84) (1 : Int32) d_M_again_84 rfl ?_
    refine gk_iadd (pc := 85) d_M_again_85 ?_
    refine gk_putfield (pc := 86) 7 3 d_M_again_86 rfl (Nat.le_of_ble_eq_true rfl) tw_1648 (Or.inl rfl) fun h3 => ?_
    exact gk_vret (pc := 89) rfl d_M_again_89 rfl
  · exact gk_vret (pc := 69) rfl d_M_again_69 rfl
theorem p_M_again_b24 (d : Nat)  (v0 : Option Nat) (s0 : Int32) (h : gk_H) : gk_P gw_V (d + 2) y_M_again b_M_again 3 none [] (f_M_again_b24  v0 s0 h) 24 [(0, va_rf v0)] [.int s0] h := by
  unfold f_M_again_b24
  refine gk_istore_n (pc := 24) (L' := [(2, .int s0), (0, va_rf v0)]) d_M_again_24 (Nat.le_of_ble_eq_true rfl) rfl ?_
  refine gk_aload_n (pc := 25) 1 d_M_again_25 rfl ?_
  refine gk_iload_n (pc := 26) 0 d_M_again_26 rfl ?_
  refine gk_if_ge (pc := 27) 34 d_M_again_27 rfl (fun _ => ?_) (fun _ => ?_)
  · refine gk_aload_n (pc := 34) 1 d_M_again_34 rfl ?_
    refine gk_aload_n (pc := 35) 1 d_M_again_35 rfl ?_
    refine gk_getR (pc := 36) 7 5 d_M_again_36 rfl (Nat.le_of_ble_eq_true rfl) tw_1650 fun x1 => ?_
    refine gk_iload_n (pc := 39) 0 d_M_again_39 rfl ?_
    refine gk_iald (pc := 40) d_M_again_40 fun x2 => ?_
    refine gk_aload_n (pc := 41) 1 d_M_again_41 rfl ?_
    refine gk_getR (pc := 42) 7 6 d_M_again_42 rfl (Nat.le_of_ble_eq_true rfl) tw_1651 fun x3 => ?_
    refine gk_iload_n (pc := 45) 0 d_M_again_45 rfl ?_
    refine gk_iald (pc := 46) d_M_again_46 fun x4 => ?_
    refine gk_imul (pc := 47) d_M_again_47 ?_
    refine gk_callV (pc := 48) (d := (d + 1)) (w' := gv_I) (as := [.int (x2 * x4)]) (n := 1) 7 d_M_again_48 rfl rfl rfl rfl (by simp [gk_cat_rf, gk_catI, gk_catJ, gk_catD, gv_V, gv_I, gv_J, gv_D, gv_R]) tw_1729 tw_1731 tw_14 tw_99 cw_M_isFull hy_M_isFull (Nat.le_of_ble_eq_true rfl) (p_M_isFull (d + 1) v0 (x2 * x4) h) fun x5 h1 => ?_
    refine gk_if_eq (pc := 51) 58 d_M_again_51 rfl (fun _ => ?_) (fun _ => ?_)
    · refine gk_iconst (pc := 58) (0 : Int32) d_M_again_58 rfl ?_
      refine gk_weak [1, 0] (L' := [(0, va_rf v0), (2, .int s0)]) rfl ?_
      exact p_M_again_b59 d v0 s0 v0 (0 : Int32) h1
    · refine gk_iconst (pc := 54) (2 : Int32) d_M_again_54 rfl ?_
      refine gk_goto (pc := 55) 59 d_M_again_55 rfl ?_
      refine gk_weak [1, 0] (L' := [(0, va_rf v0), (2, .int s0)]) rfl ?_
      exact p_M_again_b59 d v0 s0 v0 (2 : Int32) h1
  · refine gk_iconst (pc := 30) (1 : Int32) d_M_again_30 rfl ?_
    refine gk_goto (pc := 31) 59 d_M_again_31 rfl ?_
    refine gk_weak [1, 0] (L' := [(0, va_rf v0), (2, .int s0)]) rfl ?_
    exact p_M_again_b59 d v0 s0 v0 (1 : Int32) h
theorem p_M_again_b12 (d : Nat)  (v0 : Option Nat) (h : gk_H) : gk_P gw_V (d + 2) y_M_again b_M_again 3 none [] (f_M_again_b12  v0 h) 12 [(0, va_rf v0)] [] h := by
  unfold f_M_again_b12
  refine gk_iconst (pc := 12) (-1 : Int32) d_M_again_12 rfl ?_
  refine gk_goto (pc := 13) 24 d_M_again_13 rfl ?_
  exact p_M_again_b24 d v0 (-1 : Int32) h
theorem w_M_again (d : Nat) (a0 : Option Nat) (a1 : Int32) (h : gk_H) : gk_P gw_V (d + 2) y_M_again b_M_again 3 none [] (f_M_again a0 a1 h) 0 [(0, va_rf a0), (1, .int a1)] [] h := by
  unfold f_M_again
  refine gk_iload_n (pc := 0) 1 d_M_again_0 rfl ?_
  refine gk_if_lt (pc := 1) 12 d_M_again_1 rfl (fun _ => ?_) (fun _ => ?_)
  · refine gk_weak [0] (L' := [(0, va_rf a0)]) rfl ?_
    exact p_M_again_b12 d a0 h
  · refine gk_iload_n (pc := 4) 1 d_M_again_4 rfl ?_
    refine gk_aload_n (pc := 5) 0 d_M_again_5 rfl ?_
    refine gk_getI (pc := 6) 7 3 d_M_again_6 rfl (Nat.le_of_ble_eq_true rfl) tw_1648 fun x1 => ?_
    refine gk_icmp_lt (pc := 9) 16 d_M_again_9 rfl (fun _ => ?_) (fun _ => ?_)
    · refine gk_aload_n (pc := 16) 0 d_M_again_16 rfl ?_
      refine gk_getI (pc := 17) 7 3 d_M_again_17 rfl (Nat.le_of_ble_eq_true rfl) tw_1648 fun x2 => ?_
      refine gk_iconst (pc := 20) (1 : Int32) d_M_again_20 rfl ?_
      refine gk_isub (pc := 21) d_M_again_21 ?_
      refine gk_iload_n (pc := 22) 1 d_M_again_22 rfl ?_
      refine gk_isub (pc := 23) d_M_again_23 ?_
      refine gk_weak [0] (L' := [(0, va_rf a0)]) rfl ?_
      exact p_M_again_b24 d a0 ((x2 - (1 : Int32)) - a1) h
    · refine gk_weak [0] (L' := [(0, va_rf a0)]) rfl ?_
      exact p_M_again_b12 d a0 h
theorem p_M_again (d : Nat) (a0 : Option Nat) (a1 : Int32) (h : gk_H) : ∀ r h1, f_M_again a0 a1 h = some (r, h1) → gk_M (d + 2) y_M_again b_M_again 3 none [va_rf a0, .int a1] h (.inl (gv_V r)) h1 :=
  fun r h1 e => gk_M_of2 (by decide +kernel) (by simp [lv_args, gk_cat_rf, gk_catI, gk_catJ, gk_catD, gv_V, gv_I, gv_J, gv_D, gv_R]) (by simp [lg_sl, gk_cat_rf, gk_catI, gk_catJ, gk_catD, gv_V, gv_I, gv_J, gv_D, gv_R]) (w_M_again d a0 a1 h r h1 e)
theorem d_M_size_0 : decode b_M_size 0 = .ok (.aload_n 0, 1) := by decide +kernel
theorem d_M_size_1 : decode b_M_size 1 = .ok (.iconst 0, 1) := by decide +kernel
theorem d_M_size_2 : decode b_M_size 2 = .ok (.putfield 46, 3) := by decide +kernel
theorem d_M_size_5 : decode b_M_size 5 = .ok (.aload_n 0, 1) := by decide +kernel
theorem d_M_size_6 : decode b_M_size 6 = .ok (.getfield 69, 3) := by decide +kernel
theorem d_M_size_9 : decode b_M_size 9 = .ok (.ireturn, 1) := by decide +kernel
theorem w_M_size (d : Nat) (a0 : Option Nat) (h : gk_H) : gk_P gw_I d y_M_size b_M_size 1 (some .int) [] (f_M_size a0 h) 0 [(0, va_rf a0)] [] h := by
  unfold f_M_size
  refine gk_aload_n (pc := 0) 0 d_M_size_0 rfl ?_
  refine gk_iconst (pc := 1) (0 : Int32) d_M_size_1 rfl ?_
  refine gk_putfield (pc := 2) 7 0 d_M_size_2 rfl (Nat.le_of_ble_eq_true rfl) tw_1645 (Or.inl rfl) fun h1 => ?_
  refine gk_aload_n (pc := 5) 0 d_M_size_5 rfl ?_
  refine gk_getI (pc := 6) 7 3 d_M_size_6 rfl (Nat.le_of_ble_eq_true rfl) tw_1648 fun x1 => ?_
  exact gk_iret (pc := 9) rfl d_M_size_9 rfl
theorem p_M_size (d : Nat) (a0 : Option Nat) (h : gk_H) : ∀ r h1, f_M_size a0 h = some (r, h1) → gk_M d y_M_size b_M_size 1 (some .int) [va_rf a0] h (.inl (gv_I r)) h1 :=
  fun r h1 e => gk_M_of2 (by decide +kernel) (by simp [lv_args, gk_cat_rf, gk_catI, gk_catJ, gk_catD, gv_V, gv_I, gv_J, gv_D, gv_R]) (by simp [lg_sl, gk_cat_rf, gk_catI, gk_catJ, gk_catD, gv_V, gv_I, gv_J, gv_D, gv_R]) (w_M_size d a0 h r h1 e)
theorem d_M_about_0 : decode b_M_about 0 = .ok (.iload_n 1, 1) := by decide +kernel
theorem d_M_about_1 : decode b_M_about 1 = .ok (.ifCond .lt 11, 3) := by decide +kernel
theorem d_M_about_4 : decode b_M_about 4 = .ok (.iload_n 1, 1) := by decide +kernel
theorem d_M_about_5 : decode b_M_about 5 = .ok (.aload_n 0, 1) := by decide +kernel
theorem d_M_about_6 : decode b_M_about 6 = .ok (.getfield 69, 3) := by decide +kernel
theorem d_M_about_9 : decode b_M_about 9 = .ok (.if_icmp .lt 7, 3) := by decide +kernel
theorem d_M_about_12 : decode b_M_about 12 = .ok (.iconst 1, 1) := by decide +kernel
theorem d_M_about_13 : decode b_M_about 13 = .ok (.goto 4, 3) := by decide +kernel
theorem d_M_about_16 : decode b_M_about 16 = .ok (.iconst 0, 1) := by decide +kernel
theorem d_M_about_17 : decode b_M_about 17 = .ok (.istore_n 3, 1) := by decide +kernel
theorem d_M_about_18 : decode b_M_about 18 = .ok (.aload_n 0, 1) := by decide +kernel
theorem d_M_about_19 : decode b_M_about 19 = .ok (.iload_n 3, 1) := by decide +kernel
theorem d_M_about_20 : decode b_M_about 20 = .ok (.ifCond .eq 7, 3) := by decide +kernel
theorem d_M_about_23 : decode b_M_about 23 = .ok (.iconst 1, 1) := by decide +kernel
theorem d_M_about_24 : decode b_M_about 24 = .ok (.goto 17, 3) := by decide +kernel
theorem d_M_about_27 : decode b_M_about 27 = .ok (.iload_n 2, 1) := by decide +kernel
theorem d_M_about_28 : decode b_M_about 28 = .ok (.ifCond .lt 8, 3) := by decide +kernel
theorem d_M_about_31 : decode b_M_about 31 = .ok (.iload_n 2, 1) := by decide +kernel
theorem d_M_about_32 : decode b_M_about 32 = .ok (.iconst 2, 1) := by decide +kernel
theorem d_M_about_33 : decode b_M_about 33 = .ok (.if_icmp .le 7, 3) := by decide +kernel
theorem d_M_about_36 : decode b_M_about 36 = .ok (.iconst 2, 1) := by decide +kernel
theorem d_M_about_37 : decode b_M_about 37 = .ok (.goto 4, 3) := by decide +kernel
theorem d_M_about_40 : decode b_M_about 40 = .ok (.iconst 0, 1) := by decide +kernel
theorem d_M_about_41 : decode b_M_about 41 = .ok (.putfield 46, 3) := by decide +kernel
theorem d_M_about_44 : decode b_M_about 44 = .ok (.aload_n 0, 1) := by decide +kernel
theorem d_M_about_45 : decode b_M_about 45 = .ok (.getfield 46, 3) := by decide +kernel
theorem d_M_about_48 : decode b_M_about 48 = .ok (.ifCond .le 5, 3) := by decide +kernel
theorem d_M_about_51 : decode b_M_about 51 = .ok (.iconst 0, 1) := by decide +kernel
theorem d_M_about_52 : decode b_M_about 52 = .ok (.ireturn, 1) := by decide +kernel
theorem d_M_about_53 : decode b_M_about 53 = .ok (.aload_n 0, 1) := by decide +kernel
theorem d_M_about_54 : decode b_M_about 54 = .ok (.getfield 69, 3) := by decide +kernel
theorem d_M_about_57 : decode b_M_about 57 = .ok (.iconst 1, 1) := by decide +kernel
theorem d_M_about_58 : decode b_M_about 58 = .ok (.isub, 1) := by decide +kernel
theorem d_M_about_59 : decode b_M_about 59 = .ok (.iload_n 1, 1) := by decide +kernel
theorem d_M_about_60 : decode b_M_about 60 = .ok (.isub, 1) := by decide +kernel
theorem d_M_about_61 : decode b_M_about 61 = .ok (.istore 4, 2) := by decide +kernel
theorem d_M_about_63 : decode b_M_about 63 = .ok (.iload_n 2, 1) := by decide +kernel
theorem d_M_about_64 : decode b_M_about 64 = .ok (.ifCond .ne 13, 3) := by decide +kernel
theorem d_M_about_67 : decode b_M_about 67 = .ok (.aload_n 0, 1) := by decide +kernel
theorem d_M_about_68 : decode b_M_about 68 = .ok (.getfield 13, 3) := by decide +kernel
theorem d_M_about_71 : decode b_M_about 71 = .ok (.iload 4, 2) := by decide +kernel
theorem d_M_about_73 : decode b_M_about 73 = .ok (.iaload, 1) := by decide +kernel
theorem d_M_about_74 : decode b_M_about 74 = .ok (.goto 25, 3) := by decide +kernel
theorem d_M_about_77 : decode b_M_about 77 = .ok (.iload_n 2, 1) := by decide +kernel
theorem d_M_about_78 : decode b_M_about 78 = .ok (.iconst 1, 1) := by decide +kernel
theorem d_M_about_79 : decode b_M_about 79 = .ok (.if_icmp .ne 13, 3) := by decide +kernel
theorem d_M_about_82 : decode b_M_about 82 = .ok (.aload_n 0, 1) := by decide +kernel
theorem d_M_about_83 : decode b_M_about 83 = .ok (.getfield 17, 3) := by decide +kernel
theorem d_M_about_86 : decode b_M_about 86 = .ok (.iload 4, 2) := by decide +kernel
theorem d_M_about_88 : decode b_M_about 88 = .ok (.iaload, 1) := by decide +kernel
theorem d_M_about_89 : decode b_M_about 89 = .ok (.goto 10, 3) := by decide +kernel
theorem d_M_about_92 : decode b_M_about 92 = .ok (.aload_n 0, 1) := by decide +kernel
theorem d_M_about_93 : decode b_M_about 93 = .ok (.getfield 20, 3) := by decide +kernel
theorem d_M_about_96 : decode b_M_about 96 = .ok (.iload 4, 2) := by decide +kernel
theorem d_M_about_98 : decode b_M_about 98 = .ok (.iaload, 1) := by decide +kernel
theorem d_M_about_99 : decode b_M_about 99 = .ok (.ireturn, 1) := by decide +kernel
theorem p_M_about_b99 (d : Nat)  (s0 : Int32) (h : gk_H) : gk_P gw_I d y_M_about b_M_about 5 (some .int) [] (f_M_about_b99  s0 h) 99 [] [.int s0] h := by
  unfold f_M_about_b99
  exact gk_iret (pc := 99) rfl d_M_about_99 rfl
theorem p_M_about_b41 (d : Nat)  (v0 : Option Nat) (v1 : Int32) (v2 : Int32) (s0 : Option Nat) (s1 : Int32) (h : gk_H) : gk_P gw_I d y_M_about b_M_about 5 (some .int) [] (f_M_about_b41  v0 v1 v2 s0 s1 h) 41 [(0, va_rf v0), (1, .int v1), (2, .int v2)] [.int s1, va_rf s0] h := by
  unfold f_M_about_b41
  refine gk_putfield (pc := 41) 7 0 d_M_about_41 rfl (Nat.le_of_ble_eq_true rfl) tw_1645 (Or.inl rfl) fun h1 => ?_
  refine gk_aload_n (pc := 44) 0 d_M_about_44 rfl ?_
  refine gk_getI (pc := 45) 7 0 d_M_about_45 rfl (Nat.le_of_ble_eq_true rfl) tw_1645 fun x1 => ?_
  refine gk_if_le (pc := 48) 53 d_M_about_48 rfl (fun _ => ?_) (fun _ => ?_)
  · refine gk_aload_n (pc := 53) 0 d_M_about_53 rfl ?_
    refine gk_getI (pc := 54) 7 3 d_M_about_54 rfl (Nat.le_of_ble_eq_true rfl) tw_1648 fun x2 => ?_
    refine gk_iconst (pc := 57) (1 : Int32) d_M_about_57 rfl ?_
    refine gk_isub (pc := 58) d_M_about_58 ?_
    refine gk_iload_n (pc := 59) 1 d_M_about_59 rfl ?_
    refine gk_isub (pc := 60) d_M_about_60 ?_
    refine gk_topI (pc := 61) fun x3 => ?_
    refine gk_istore (pc := 61) (L' := [(4, .int x3), (0, va_rf v0), (1, .int v1), (2, .int v2)]) d_M_about_61 (Nat.le_of_ble_eq_true rfl) rfl ?_
    refine gk_iload_n (pc := 63) 3 d_M_about_63 rfl ?_
    refine gk_if_ne (pc := 64) 77 d_M_about_64 rfl (fun _ => ?_) (fun _ => ?_)
    · refine gk_aload_n (pc := 67) 1 d_M_about_67 rfl ?_
      refine gk_getR (pc := 68) 7 4 d_M_about_68 rfl (Nat.le_of_ble_eq_true rfl) tw_1649 fun x4 => ?_
      refine gk_iload (pc := 71) 0 d_M_about_71 rfl ?_
      refine gk_iald (pc := 73) d_M_about_73 fun x5 => ?_
      refine gk_goto (pc := 74) 99 d_M_about_74 rfl ?_
      refine gk_weak [] (L' := []) rfl ?_
      exact p_M_about_b99 d x5 h1
    · refine gk_iload_n (pc := 77) 3 d_M_about_77 rfl ?_
      refine gk_iconst (pc := 78) (1 : Int32) d_M_about_78 rfl ?_
      refine gk_icmp_ne (pc := 79) 92 d_M_about_79 rfl (fun _ => ?_) (fun _ => ?_)
      · refine gk_aload_n (pc := 82) 1 d_M_about_82 rfl ?_
        refine gk_getR (pc := 83) 7 5 d_M_about_83 rfl (Nat.le_of_ble_eq_true rfl) tw_1650 fun x6 => ?_
        refine gk_iload (pc := 86) 0 d_M_about_86 rfl ?_
        refine gk_iald (pc := 88) d_M_about_88 fun x7 => ?_
        refine gk_goto (pc := 89) 99 d_M_about_89 rfl ?_
        refine gk_weak [] (L' := []) rfl ?_
        exact p_M_about_b99 d x7 h1
      · refine gk_aload_n (pc := 92) 1 d_M_about_92 rfl ?_
        refine gk_getR (pc := 93) 7 6 d_M_about_93 rfl (Nat.le_of_ble_eq_true rfl) tw_1651 fun x8 => ?_
        refine gk_iload (pc := 96) 0 d_M_about_96 rfl ?_
        refine gk_iald (pc := 98) d_M_about_98 fun x9 => ?_
        refine gk_weak [] (L' := []) rfl ?_
        exact p_M_about_b99 d x9 h1
  · refine gk_iconst (pc := 51) (0 : Int32) d_M_about_51 rfl ?_
    exact gk_iret (pc := 52) rfl d_M_about_52 rfl
theorem p_M_about_b36 (d : Nat)  (v0 : Option Nat) (v1 : Int32) (v2 : Int32) (s0 : Option Nat) (h : gk_H) : gk_P gw_I d y_M_about b_M_about 5 (some .int) [] (f_M_about_b36  v0 v1 v2 s0 h) 36 [(0, va_rf v0), (1, .int v1), (2, .int v2)] [va_rf s0] h := by
  unfold f_M_about_b36
  refine gk_iconst (pc := 36) (2 : Int32) d_M_about_36 rfl ?_
  refine gk_goto (pc := 37) 41 d_M_about_37 rfl ?_
  exact p_M_about_b41 d v0 v1 v2 s0 (2 : Int32) h
theorem p_M_about_b17 (d : Nat)  (v0 : Option Nat) (v1 : Int32) (v2 : Int32) (s0 : Int32) (h : gk_H) : gk_P gw_I d y_M_about b_M_about 5 (some .int) [] (f_M_about_b17  v0 v1 v2 s0 h) 17 [(0, va_rf v0), (1, .int v1), (2, .int v2)] [.int s0] h := by
  unfold f_M_about_b17
  refine gk_istore_n (pc := 17) (L' := [(3, .int s0), (0, va_rf v0), (1, .int v1), (2, .int v2)]) d_M_about_17 (Nat.le_of_ble_eq_true rfl) rfl ?_
  refine gk_aload_n (pc := 18) 1 d_M_about_18 rfl ?_
  refine gk_iload_n (pc := 19) 0 d_M_about_19 rfl ?_
  refine gk_if_eq (pc := 20) 27 d_M_about_20 rfl (fun _ => ?_) (fun _ => ?_)
  · refine gk_iload_n (pc := 27) 3 d_M_about_27 rfl ?_
    refine gk_if_lt (pc := 28) 36 d_M_about_28 rfl (fun _ => ?_) (fun _ => ?_)
    · refine gk_weak [1, 2, 3] (L' := [(0, va_rf v0), (1, .int v1), (2, .int v2)]) rfl ?_
      exact p_M_about_b36 d v0 v1 v2 v0 h
    · refine gk_iload_n (pc := 31) 3 d_M_about_31 rfl ?_
      refine gk_iconst (pc := 32) (2 : Int32) d_M_about_32 rfl ?_
      refine gk_icmp_le (pc := 33) 40 d_M_about_33 rfl (fun _ => ?_) (fun _ => ?_)
      · refine gk_iconst (pc := 40) (0 : Int32) d_M_about_40 rfl ?_
        refine gk_weak [1, 2, 3] (L' := [(0, va_rf v0), (1, .int v1), (2, .int v2)]) rfl ?_
        exact p_M_about_b41 d v0 v1 v2 v0 (0 : Int32) h
      · refine gk_weak [1, 2, 3] (L' := [(0, va_rf v0), (1, .int v1), (2, .int v2)]) rfl ?_
        exact p_M_about_b36 d v0 v1 v2 v0 h
  · refine gk_iconst (pc := 23) (1 : Int32) d_M_about_23 rfl ?_
    refine gk_goto (pc := 24) 41 d_M_about_24 rfl ?_
    refine gk_weak [1, 2, 3] (L' := [(0, va_rf v0), (1, .int v1), (2, .int v2)]) rfl ?_
    exact p_M_about_b41 d v0 v1 v2 v0 (1 : Int32) h
theorem p_M_about_b12 (d : Nat)  (v0 : Option Nat) (v1 : Int32) (v2 : Int32) (h : gk_H) : gk_P gw_I d y_M_about b_M_about 5 (some .int) [] (f_M_about_b12  v0 v1 v2 h) 12 [(0, va_rf v0), (1, .int v1), (2, .int v2)] [] h := by
  unfold f_M_about_b12
  refine gk_iconst (pc := 12) (1 : Int32) d_M_about_12 rfl ?_
  refine gk_goto (pc := 13) 17 d_M_about_13 rfl ?_
  exact p_M_about_b17 d v0 v1 v2 (1 : Int32) h
theorem w_M_about (d : Nat) (a0 : Option Nat) (a1 : Int32) (a2 : Int32) (h : gk_H) : gk_P gw_I d y_M_about b_M_about 5 (some .int) [] (f_M_about a0 a1 a2 h) 0 [(0, va_rf a0), (1, .int a1), (2, .int a2)] [] h := by
  unfold f_M_about
  refine gk_iload_n (pc := 0) 1 d_M_about_0 rfl ?_
  refine gk_if_lt (pc := 1) 12 d_M_about_1 rfl (fun _ => ?_) (fun _ => ?_)
  · exact p_M_about_b12 d a0 a1 a2 h
  · refine gk_iload_n (pc := 4) 1 d_M_about_4 rfl ?_
    refine gk_aload_n (pc := 5) 0 d_M_about_5 rfl ?_
    refine gk_getI (pc := 6) 7 3 d_M_about_6 rfl (Nat.le_of_ble_eq_true rfl) tw_1648 fun x1 => ?_
    refine gk_icmp_lt (pc := 9) 16 d_M_about_9 rfl (fun _ => ?_) (fun _ => ?_)
    · refine gk_iconst (pc := 16) (0 : Int32) d_M_about_16 rfl ?_
      exact p_M_about_b17 d a0 a1 a2 (0 : Int32) h
    · exact p_M_about_b12 d a0 a1 a2 h
theorem p_M_about (d : Nat) (a0 : Option Nat) (a1 : Int32) (a2 : Int32) (h : gk_H) : ∀ r h1, f_M_about a0 a1 a2 h = some (r, h1) → gk_M d y_M_about b_M_about 5 (some .int) [va_rf a0, .int a1, .int a2] h (.inl (gv_I r)) h1 :=
  fun r h1 e => gk_M_of2 (by decide +kernel) (by simp [lv_args, gk_cat_rf, gk_catI, gk_catJ, gk_catD, gv_V, gv_I, gv_J, gv_D, gv_R]) (by simp [lg_sl, gk_cat_rf, gk_catI, gk_catJ, gk_catD, gv_V, gv_I, gv_J, gv_D, gv_R]) (w_M_about d a0 a1 a2 h r h1 e)
theorem d_M_find_0 : decode b_M_find 0 = .ok (.iload_n 1, 1) := by decide +kernel
theorem d_M_find_1 : decode b_M_find 1 = .ok (.ifCond .lt 11, 3) := by decide +kernel
theorem d_M_find_4 : decode b_M_find 4 = .ok (.iload_n 1, 1) := by decide +kernel
theorem d_M_find_5 : decode b_M_find 5 = .ok (.aload_n 0, 1) := by decide +kernel
theorem d_M_find_6 : decode b_M_find 6 = .ok (.getfield 69, 3) := by decide +kernel
theorem d_M_find_9 : decode b_M_find 9 = .ok (.if_icmp .lt 5, 3) := by decide +kernel
theorem d_M_find_12 : decode b_M_find 12 = .ok (.iconst (-1), 1) := by decide +kernel
theorem d_M_find_13 : decode b_M_find 13 = .ok (.ireturn, 1) := by decide +kernel
theorem d_M_find_14 : decode b_M_find 14 = .ok (.aload_n 0, 1) := by decide +kernel
theorem d_M_find_15 : decode b_M_find 15 = .ok (.getfield 69, 3) := by decide +kernel
theorem d_M_find_18 : decode b_M_find 18 = .ok (.iconst 1, 1) := by decide +kernel
theorem d_M_find_19 : decode b_M_find 19 = .ok (.isub, 1) := by decide +kernel
theorem d_M_find_20 : decode b_M_find 20 = .ok (.iload_n 1, 1) := by decide +kernel
theorem d_M_find_21 : decode b_M_find 21 = .ok (.isub, 1) := by decide +kernel
theorem d_M_find_22 : decode b_M_find 22 = .ok (.istore 4, 2) := by decide +kernel
theorem d_M_find_24 : decode b_M_find 24 = .ok (.iload_n 2, 1) := by decide +kernel
theorem d_M_find_25 : decode b_M_find 25 = .ok (.ifCond .lt 29, 3) := by decide +kernel
theorem d_M_find_28 : decode b_M_find 28 = .ok (.iload_n 2, 1) := by decide +kernel
theorem d_M_find_29 : decode b_M_find 29 = .ok (.aload_n 0, 1) := by decide +kernel
theorem d_M_find_30 : decode b_M_find 30 = .ok (.getfield 17, 3) := by decide +kernel
theorem d_M_find_33 : decode b_M_find 33 = .ok (.iload 4, 2) := by decide +kernel
theorem d_M_find_35 : decode b_M_find 35 = .ok (.iaload, 1) := by decide +kernel
theorem d_M_find_36 : decode b_M_find 36 = .ok (.if_icmp .ge 18, 3) := by decide +kernel
theorem d_M_find_39 : decode b_M_find 39 = .ok (.iload_n 3, 1) := by decide +kernel
theorem d_M_find_40 : decode b_M_find 40 = .ok (.ifCond .lt 14, 3) := by decide +kernel
theorem d_M_find_43 : decode b_M_find 43 = .ok (.iload_n 3, 1) := by decide +kernel
theorem d_M_find_44 : decode b_M_find 44 = .ok (.aload_n 0, 1) := by decide +kernel
theorem d_M_find_45 : decode b_M_find 45 = .ok (.getfield 20, 3) := by decide +kernel
theorem d_M_find_48 : decode b_M_find 48 = .ok (.iload 4, 2) := by decide +kernel
theorem d_M_find_50 : decode b_M_find 50 = .ok (.iaload, 1) := by decide +kernel
theorem d_M_find_51 : decode b_M_find 51 = .ok (.if_icmp .lt 7, 3) := by decide +kernel
theorem d_M_find_54 : decode b_M_find 54 = .ok (.iconst (-1), 1) := by decide +kernel
theorem d_M_find_55 : decode b_M_find 55 = .ok (.goto 20, 3) := by decide +kernel
theorem d_M_find_58 : decode b_M_find 58 = .ok (.bipush 16, 2) := by decide +kernel
theorem d_M_find_60 : decode b_M_find 60 = .ok (.iload 4, 2) := by decide +kernel
theorem d_M_find_62 : decode b_M_find 62 = .ok (.imul, 1) := by decide +kernel
theorem d_M_find_63 : decode b_M_find 63 = .ok (.iload_n 2, 1) := by decide +kernel
theorem d_M_find_64 : decode b_M_find 64 = .ok (.aload_n 0, 1) := by decide +kernel
theorem d_M_find_65 : decode b_M_find 65 = .ok (.getfield 20, 3) := by decide +kernel
theorem d_M_find_68 : decode b_M_find 68 = .ok (.iload 4, 2) := by decide +kernel
theorem d_M_find_70 : decode b_M_find 70 = .ok (.iaload, 1) := by decide +kernel
theorem d_M_find_71 : decode b_M_find 71 = .ok (.imul, 1) := by decide +kernel
theorem d_M_find_72 : decode b_M_find 72 = .ok (.iadd, 1) := by decide +kernel
theorem d_M_find_73 : decode b_M_find 73 = .ok (.iload_n 3, 1) := by decide +kernel
theorem d_M_find_74 : decode b_M_find 74 = .ok (.iadd, 1) := by decide +kernel
theorem d_M_find_75 : decode b_M_find 75 = .ok (.ireturn, 1) := by decide +kernel
theorem p_M_find_b12 (d : Nat)   (h : gk_H) : gk_P gw_I d y_M_find b_M_find 5 (some .int) [] (f_M_find_b12   h) 12 [] [] h := by
  unfold f_M_find_b12
  refine gk_iconst (pc := 12) (-1 : Int32) d_M_find_12 rfl ?_
  exact gk_iret (pc := 13) rfl d_M_find_13 rfl
theorem p_M_find_b75 (d : Nat)  (s0 : Int32) (h : gk_H) : gk_P gw_I d y_M_find b_M_find 5 (some .int) [] (f_M_find_b75  s0 h) 75 [] [.int s0] h := by
  unfold f_M_find_b75
  exact gk_iret (pc := 75) rfl d_M_find_75 rfl
theorem p_M_find_b54 (d : Nat)   (h : gk_H) : gk_P gw_I d y_M_find b_M_find 5 (some .int) [] (f_M_find_b54   h) 54 [] [] h := by
  unfold f_M_find_b54
  refine gk_iconst (pc := 54) (-1 : Int32) d_M_find_54 rfl ?_
  refine gk_goto (pc := 55) 75 d_M_find_55 rfl ?_
  exact p_M_find_b75 d (-1 : Int32) h
theorem w_M_find (d : Nat) (a0 : Option Nat) (a1 : Int32) (a2 : Int32) (a3 : Int32) (h : gk_H) : gk_P gw_I d y_M_find b_M_find 5 (some .int) [] (f_M_find a0 a1 a2 a3 h) 0 [(0, va_rf a0), (1, .int a1), (2, .int a2), (3, .int a3)] [] h := by
  unfold f_M_find
  refine gk_iload_n (pc := 0) 1 d_M_find_0 rfl ?_
  refine gk_if_lt (pc := 1) 12 d_M_find_1 rfl (fun _ => ?_) (fun _ => ?_)
  · refine gk_weak [] (L' := []) rfl ?_
    exact p_M_find_b12 d h
  · refine gk_iload_n (pc := 4) 1 d_M_find_4 rfl ?_
    refine gk_aload_n (pc := 5) 0 d_M_find_5 rfl ?_
    refine gk_getI (pc := 6) 7 3 d_M_find_6 rfl (Nat.le_of_ble_eq_true rfl) tw_1648 fun x1 => ?_
    refine gk_icmp_lt (pc := 9) 14 d_M_find_9 rfl (fun _ => ?_) (fun _ => ?_)
    · refine gk_aload_n (pc := 14) 0 d_M_find_14 rfl ?_
      refine gk_getI (pc := 15) 7 3 d_M_find_15 rfl (Nat.le_of_ble_eq_true rfl) tw_1648 fun x2 => ?_
      refine gk_iconst (pc := 18) (1 : Int32) d_M_find_18 rfl ?_
      refine gk_isub (pc := 19) d_M_find_19 ?_
      refine gk_iload_n (pc := 20) 1 d_M_find_20 rfl ?_
      refine gk_isub (pc := 21) d_M_find_21 ?_
      refine gk_topI (pc := 22) fun x3 => ?_
      refine gk_istore (pc := 22) (L' := [(4, .int x3), (0, va_rf a0), (1, .int a1), (2, .int a2), (3, .int a3)]) d_M_find_22 (Nat.le_of_ble_eq_true rfl) rfl ?_
      refine gk_iload_n (pc := 24) 3 d_M_find_24 rfl ?_
      refine gk_if_lt (pc := 25) 54 d_M_find_25 rfl (fun _ => ?_) (fun _ => ?_)
      · refine gk_weak [] (L' := []) rfl ?_
        exact p_M_find_b54 d h
      · refine gk_iload_n (pc := 28) 3 d_M_find_28 rfl ?_
        refine gk_aload_n (pc := 29) 1 d_M_find_29 rfl ?_
        refine gk_getR (pc := 30) 7 5 d_M_find_30 rfl (Nat.le_of_ble_eq_true rfl) tw_1650 fun x4 => ?_
        refine gk_iload (pc := 33) 0 d_M_find_33 rfl ?_
        refine gk_iald (pc := 35) d_M_find_35 fun x5 => ?_
        refine gk_icmp_ge (pc := 36) 54 d_M_find_36 rfl (fun _ => ?_) (fun _ => ?_)
        · refine gk_weak [] (L' := []) rfl ?_
          exact p_M_find_b54 d h
        · refine gk_iload_n (pc := 39) 4 d_M_find_39 rfl ?_
          refine gk_if_lt (pc := 40) 54 d_M_find_40 rfl (fun _ => ?_) (fun _ => ?_)
          · refine gk_weak [] (L' := []) rfl ?_
            exact p_M_find_b54 d h
          · refine gk_iload_n (pc := 43) 4 d_M_find_43 rfl ?_
            refine gk_aload_n (pc := 44) 1 d_M_find_44 rfl ?_
            refine gk_getR (pc := 45) 7 6 d_M_find_45 rfl (Nat.le_of_ble_eq_true rfl) tw_1651 fun x6 => ?_
            refine gk_iload (pc := 48) 0 d_M_find_48 rfl ?_
            refine gk_iald (pc := 50) d_M_find_50 fun x7 => ?_
            refine gk_icmp_lt (pc := 51) 58 d_M_find_51 rfl (fun _ => ?_) (fun _ => ?_)
            · refine gk_bipush (pc := 58) (16 : Int32) d_M_find_58 rfl ?_
              refine gk_iload (pc := 60) 0 d_M_find_60 rfl ?_
              refine gk_imul (pc := 62) d_M_find_62 ?_
              refine gk_iload_n (pc := 63) 3 d_M_find_63 rfl ?_
              refine gk_aload_n (pc := 64) 1 d_M_find_64 rfl ?_
              refine gk_getR (pc := 65) 7 6 d_M_find_65 rfl (Nat.le_of_ble_eq_true rfl) tw_1651 fun x8 => ?_
              refine gk_iload (pc := 68) 0 d_M_find_68 rfl ?_
              refine gk_iald (pc := 70) d_M_find_70 fun x9 => ?_
              refine gk_imul (pc := 71) d_M_find_71 ?_
              refine gk_iadd (pc := 72) d_M_find_72 ?_
              refine gk_iload_n (pc := 73) 4 d_M_find_73 rfl ?_
              refine gk_iadd (pc := 74) d_M_find_74 ?_
              refine gk_weak [] (L' := []) rfl ?_
              exact p_M_find_b75 d ((((16 : Int32) * x3) + (a2 * x9)) + a3) h
            · refine gk_weak [] (L' := []) rfl ?_
              exact p_M_find_b54 d h
    · refine gk_weak [] (L' := []) rfl ?_
      exact p_M_find_b12 d h
theorem p_M_find (d : Nat) (a0 : Option Nat) (a1 : Int32) (a2 : Int32) (a3 : Int32) (h : gk_H) : ∀ r h1, f_M_find a0 a1 a2 a3 h = some (r, h1) → gk_M d y_M_find b_M_find 5 (some .int) [va_rf a0, .int a1, .int a2, .int a3] h (.inl (gv_I r)) h1 :=
  fun r h1 e => gk_M_of2 (by decide +kernel) (by simp [lv_args, gk_cat_rf, gk_catI, gk_catJ, gk_catD, gv_V, gv_I, gv_J, gv_D, gv_R]) (by simp [lg_sl, gk_cat_rf, gk_catI, gk_catJ, gk_catD, gv_V, gv_I, gv_J, gv_D, gv_R]) (w_M_find d a0 a1 a2 a3 h r h1 e)
theorem d_M_cell_0 : decode b_M_cell 0 = .ok (.aload_n 0, 1) := by decide +kernel
theorem d_M_cell_1 : decode b_M_cell 1 = .ok (.iload_n 1, 1) := by decide +kernel
theorem d_M_cell_2 : decode b_M_cell 2 = .ok (.iload_n 2, 1) := by decide +kernel
theorem d_M_cell_3 : decode b_M_cell 3 = .ok (.iload_n 3, 1) := by decide +kernel
theorem d_M_cell_4 : decode b_M_cell 4 = .ok (.invokevirtual 86, 3) := by decide +kernel
theorem d_M_cell_7 : decode b_M_cell 7 = .ok (.istore 5, 2) := by decide +kernel
theorem d_M_cell_9 : decode b_M_cell 9 = .ok (.aload_n 0, 1) := by decide +kernel
theorem d_M_cell_10 : decode b_M_cell 10 = .ok (.iload 5, 2) := by decide +kernel
theorem d_M_cell_12 : decode b_M_cell 12 = .ok (.ifCond .ge 7, 3) := by decide +kernel
theorem d_M_cell_15 : decode b_M_cell 15 = .ok (.iconst 1, 1) := by decide +kernel
theorem d_M_cell_16 : decode b_M_cell 16 = .ok (.goto 19, 3) := by decide +kernel
theorem d_M_cell_19 : decode b_M_cell 19 = .ok (.iload 4, 2) := by decide +kernel
theorem d_M_cell_21 : decode b_M_cell 21 = .ok (.ifCond .lt 9, 3) := by decide +kernel
theorem d_M_cell_24 : decode b_M_cell 24 = .ok (.iload 4, 2) := by decide +kernel
theorem d_M_cell_26 : decode b_M_cell 26 = .ok (.iconst 1, 1) := by decide +kernel
theorem d_M_cell_27 : decode b_M_cell 27 = .ok (.if_icmp .le 7, 3) := by decide +kernel
theorem d_M_cell_30 : decode b_M_cell 30 = .ok (.iconst 2, 1) := by decide +kernel
theorem d_M_cell_31 : decode b_M_cell 31 = .ok (.goto 4, 3) := by decide +kernel
theorem d_M_cell_34 : decode b_M_cell 34 = .ok (.iconst 0, 1) := by decide +kernel
theorem d_M_cell_35 : decode b_M_cell 35 = .ok (.putfield 46, 3) := by decide +kernel
theorem d_M_cell_38 : decode b_M_cell 38 = .ok (.aload_n 0, 1) := by decide +kernel
theorem d_M_cell_39 : decode b_M_cell 39 = .ok (.getfield 46, 3) := by decide +kernel
theorem d_M_cell_42 : decode b_M_cell 42 = .ok (.ifCond .le 5, 3) := by decide +kernel
theorem d_M_cell_45 : decode b_M_cell 45 = .ok (.iconst 0, 1) := by decide +kernel
theorem d_M_cell_46 : decode b_M_cell 46 = .ok (.ireturn, 1) := by decide +kernel
theorem d_M_cell_47 : decode b_M_cell 47 = .ok (.iload 4, 2) := by decide +kernel
theorem d_M_cell_49 : decode b_M_cell 49 = .ok (.ifCond .ne 13, 3) := by decide +kernel
theorem d_M_cell_52 : decode b_M_cell 52 = .ok (.aload_n 0, 1) := by decide +kernel
theorem d_M_cell_53 : decode b_M_cell 53 = .ok (.getfield 23, 3) := by decide +kernel
theorem d_M_cell_56 : decode b_M_cell 56 = .ok (.iload 5, 2) := by decide +kernel
theorem d_M_cell_58 : decode b_M_cell 58 = .ok (.iaload, 1) := by decide +kernel
theorem d_M_cell_59 : decode b_M_cell 59 = .ok (.goto 47, 3) := by decide +kernel
theorem d_M_cell_62 : decode b_M_cell 62 = .ok (.aload_n 0, 1) := by decide +kernel
theorem d_M_cell_63 : decode b_M_cell 63 = .ok (.getfield 23, 3) := by decide +kernel
theorem d_M_cell_66 : decode b_M_cell 66 = .ok (.iload 5, 2) := by decide +kernel
theorem d_M_cell_68 : decode b_M_cell 68 = .ok (.iaload, 1) := by decide +kernel
theorem d_M_cell_69 : decode b_M_cell 69 = .ok (.iconst 2, 1) := by decide +kernel
theorem d_M_cell_70 : decode b_M_cell 70 = .ok (.if_icmp .ne 13, 3) := by decide +kernel
theorem d_M_cell_73 : decode b_M_cell 73 = .ok (.aload_n 0, 1) := by decide +kernel
theorem d_M_cell_74 : decode b_M_cell 74 = .ok (.getfield 30, 3) := by decide +kernel
theorem d_M_cell_77 : decode b_M_cell 77 = .ok (.iload 5, 2) := by decide +kernel
theorem d_M_cell_79 : decode b_M_cell 79 = .ok (.iaload, 1) := by decide +kernel
theorem d_M_cell_80 : decode b_M_cell 80 = .ok (.goto 26, 3) := by decide +kernel
theorem d_M_cell_83 : decode b_M_cell 83 = .ok (.aload_n 0, 1) := by decide +kernel
theorem d_M_cell_84 : decode b_M_cell 84 = .ok (.getfield 23, 3) := by decide +kernel
theorem d_M_cell_87 : decode b_M_cell 87 = .ok (.iload 5, 2) := by decide +kernel
theorem d_M_cell_89 : decode b_M_cell 89 = .ok (.iaload, 1) := by decide +kernel
theorem d_M_cell_90 : decode b_M_cell 90 = .ok (.iconst 2, 1) := by decide +kernel
theorem d_M_cell_91 : decode b_M_cell 91 = .ok (.if_icmp .le 14, 3) := by decide +kernel
theorem d_M_cell_94 : decode b_M_cell 94 = .ok (.aload_n 0, 1) := by decide +kernel
theorem d_M_cell_95 : decode b_M_cell 95 = .ok (.getfield 26, 3) := by decide +kernel
theorem d_M_cell_98 : decode b_M_cell 98 = .ok (.iload 5, 2) := by decide +kernel
theorem d_M_cell_100 : decode b_M_cell 100 = .ok (.daload, 1) := by decide +kernel
theorem d_M_cell_101 : decode b_M_cell 101 = .ok (.d2i, 1) := by decide +kernel
theorem d_M_cell_102 : decode b_M_cell 102 = .ok (.goto 4, 3) := by decide +kernel
theorem d_M_cell_105 : decode b_M_cell 105 = .ok (.iconst 0, 1) := by decide +kernel
theorem d_M_cell_106 : decode b_M_cell 106 = .ok (.ireturn, 1) := by decide +kernel
theorem p_M_cell_b106 (d : Nat)  (s0 : Int32) (h : gk_H) : gk_P gw_I (d + 1) y_M_cell b_M_cell 6 (some .int) [] (f_M_cell_b106  s0 h) 106 [] [.int s0] h := by
  unfold f_M_cell_b106
  exact gk_iret (pc := 106) rfl d_M_cell_106 rfl
theorem p_M_cell_b35 (d : Nat)  (v0 : Option Nat) (v4 : Int32) (v5 : Int32) (s0 : Option Nat) (s1 : Int32) (h : gk_H) : gk_P gw_I (d + 1) y_M_cell b_M_cell 6 (some .int) [] (f_M_cell_b35  v0 v4 v5 s0 s1 h) 35 [(0, va_rf v0), (4, .int v4), (5, .int v5)] [.int s1, va_rf s0] h := by
  unfold f_M_cell_b35
  refine gk_putfield (pc := 35) 7 0 d_M_cell_35 rfl (Nat.le_of_ble_eq_true rfl) tw_1645 (Or.inl rfl) fun h1 => ?_
  refine gk_aload_n (pc := 38) 0 d_M_cell_38 rfl ?_
  refine gk_getI (pc := 39) 7 0 d_M_cell_39 rfl (Nat.le_of_ble_eq_true rfl) tw_1645 fun x1 => ?_
  refine gk_if_le (pc := 42) 47 d_M_cell_42 rfl (fun _ => ?_) (fun _ => ?_)
  · refine gk_iload (pc := 47) 1 d_M_cell_47 rfl ?_
    refine gk_if_ne (pc := 49) 62 d_M_cell_49 rfl (fun _ => ?_) (fun _ => ?_)
    · refine gk_aload_n (pc := 52) 0 d_M_cell_52 rfl ?_
      refine gk_getR (pc := 53) 7 7 d_M_cell_53 rfl (Nat.le_of_ble_eq_true rfl) tw_1652 fun x2 => ?_
      refine gk_iload (pc := 56) 2 d_M_cell_56 rfl ?_
      refine gk_iald (pc := 58) d_M_cell_58 fun x3 => ?_
      refine gk_goto (pc := 59) 106 d_M_cell_59 rfl ?_
      refine gk_weak [] (L' := []) rfl ?_
      exact p_M_cell_b106 d x3 h1
    · refine gk_aload_n (pc := 62) 0 d_M_cell_62 rfl ?_
      refine gk_getR (pc := 63) 7 7 d_M_cell_63 rfl (Nat.le_of_ble_eq_true rfl) tw_1652 fun x4 => ?_
      refine gk_iload (pc := 66) 2 d_M_cell_66 rfl ?_
      refine gk_iald (pc := 68) d_M_cell_68 fun x5 => ?_
      refine gk_iconst (pc := 69) (2 : Int32) d_M_cell_69 rfl ?_
      refine gk_icmp_ne (pc := 70) 83 d_M_cell_70 rfl (fun _ => ?_) (fun _ => ?_)
      · refine gk_aload_n (pc := 73) 0 d_M_cell_73 rfl ?_
        refine gk_getR (pc := 74) 7 9 d_M_cell_74 rfl (Nat.le_of_ble_eq_true rfl) tw_1654 fun x6 => ?_
        refine gk_iload (pc := 77) 2 d_M_cell_77 rfl ?_
        refine gk_iald (pc := 79) d_M_cell_79 fun x7 => ?_
        refine gk_goto (pc := 80) 106 d_M_cell_80 rfl ?_
        refine gk_weak [] (L' := []) rfl ?_
        exact p_M_cell_b106 d x7 h1
      · refine gk_aload_n (pc := 83) 0 d_M_cell_83 rfl ?_
        refine gk_getR (pc := 84) 7 7 d_M_cell_84 rfl (Nat.le_of_ble_eq_true rfl) tw_1652 fun x8 => ?_
        refine gk_iload (pc := 87) 2 d_M_cell_87 rfl ?_
        refine gk_iald (pc := 89) d_M_cell_89 fun x9 => ?_
        refine gk_iconst (pc := 90) (2 : Int32) d_M_cell_90 rfl ?_
        refine gk_icmp_le (pc := 91) 105 d_M_cell_91 rfl (fun _ => ?_) (fun _ => ?_)
        · refine gk_iconst (pc := 105) (0 : Int32) d_M_cell_105 rfl ?_
          refine gk_weak [] (L' := []) rfl ?_
          exact p_M_cell_b106 d (0 : Int32) h1
        · refine gk_aload_n (pc := 94) 0 d_M_cell_94 rfl ?_
          refine gk_getR (pc := 95) 7 8 d_M_cell_95 rfl (Nat.le_of_ble_eq_true rfl) tw_1653 fun x10 => ?_
          refine gk_iload (pc := 98) 2 d_M_cell_98 rfl ?_
          refine gk_dald (pc := 100) d_M_cell_100 fun x11 => ?_
          refine gk_d2i (pc := 101) d_M_cell_101 ?_
          refine gk_goto (pc := 102) 106 d_M_cell_102 rfl ?_
          refine gk_weak [] (L' := []) rfl ?_
          exact p_M_cell_b106 d (FP.d2i x11) h1
  · refine gk_iconst (pc := 45) (0 : Int32) d_M_cell_45 rfl ?_
    exact gk_iret (pc := 46) rfl d_M_cell_46 rfl
theorem p_M_cell_b30 (d : Nat)  (v0 : Option Nat) (v4 : Int32) (v5 : Int32) (s0 : Option Nat) (h : gk_H) : gk_P gw_I (d + 1) y_M_cell b_M_cell 6 (some .int) [] (f_M_cell_b30  v0 v4 v5 s0 h) 30 [(0, va_rf v0), (4, .int v4), (5, .int v5)] [va_rf s0] h := by
  unfold f_M_cell_b30
  refine gk_iconst (pc := 30) (2 : Int32) d_M_cell_30 rfl ?_
  refine gk_goto (pc := 31) 35 d_M_cell_31 rfl ?_
  exact p_M_cell_b35 d v0 v4 v5 s0 (2 : Int32) h
theorem w_M_cell (d : Nat) (a0 : Option Nat) (a1 : Int32) (a2 : Int32) (a3 : Int32) (a4 : Int32) (h : gk_H) : gk_P gw_I (d + 1) y_M_cell b_M_cell 6 (some .int) [] (f_M_cell a0 a1 a2 a3 a4 h) 0 [(0, va_rf a0), (1, .int a1), (2, .int a2), (3, .int a3), (4, .int a4)] [] h := by
  unfold f_M_cell
  refine gk_aload_n (pc := 0) 0 d_M_cell_0 rfl ?_
  refine gk_iload_n (pc := 1) 1 d_M_cell_1 rfl ?_
  refine gk_iload_n (pc := 2) 2 d_M_cell_2 rfl ?_
  refine gk_iload_n (pc := 3) 3 d_M_cell_3 rfl ?_
  refine gk_callV (pc := 4) (d := d) (w' := gv_I) (as := [.int a1, .int a2, .int a3]) (n := 3) 7 d_M_cell_4 rfl rfl rfl rfl (Nat.le_of_ble_eq_true rfl) tw_1781 tw_1783 tw_18 tw_99 cw_M_find hy_M_find (Nat.le_of_ble_eq_true rfl) (p_M_find d a0 a1 a2 a3 h) fun x1 h1 => ?_
  refine gk_istore (pc := 7) (L' := [(5, .int x1), (0, va_rf a0), (1, .int a1), (2, .int a2), (3, .int a3), (4, .int a4)]) d_M_cell_7 (Nat.le_of_ble_eq_true rfl) rfl ?_
  refine gk_aload_n (pc := 9) 1 d_M_cell_9 rfl ?_
  refine gk_iload (pc := 10) 0 d_M_cell_10 rfl ?_
  refine gk_if_ge (pc := 12) 19 d_M_cell_12 rfl (fun _ => ?_) (fun _ => ?_)
  · refine gk_iload (pc := 19) 5 d_M_cell_19 rfl ?_
    refine gk_if_lt (pc := 21) 30 d_M_cell_21 rfl (fun _ => ?_) (fun _ => ?_)
    · refine gk_weak [1, 5, 0] (L' := [(0, va_rf a0), (4, .int a4), (5, .int x1)]) rfl ?_
      exact p_M_cell_b30 d a0 a4 x1 a0 h1
    · refine gk_iload (pc := 24) 5 d_M_cell_24 rfl ?_
      refine gk_iconst (pc := 26) (1 : Int32) d_M_cell_26 rfl ?_
      refine gk_icmp_le (pc := 27) 34 d_M_cell_27 rfl (fun _ => ?_) (fun _ => ?_)
      · refine gk_iconst (pc := 34) (0 : Int32) d_M_cell_34 rfl ?_
        refine gk_weak [1, 5, 0] (L' := [(0, va_rf a0), (4, .int a4), (5, .int x1)]) rfl ?_
        exact p_M_cell_b35 d a0 a4 x1 a0 (0 : Int32) h1
      · refine gk_weak [1, 5, 0] (L' := [(0, va_rf a0), (4, .int a4), (5, .int x1)]) rfl ?_
        exact p_M_cell_b30 d a0 a4 x1 a0 h1
  · refine gk_iconst (pc := 15) (1 : Int32) d_M_cell_15 rfl ?_
    refine gk_goto (pc := 16) 35 d_M_cell_16 rfl ?_
    refine gk_weak [1, 5, 0] (L' := [(0, va_rf a0), (4, .int a4), (5, .int x1)]) rfl ?_
    exact p_M_cell_b35 d a0 a4 x1 a0 (1 : Int32) h1
theorem p_M_cell (d : Nat) (a0 : Option Nat) (a1 : Int32) (a2 : Int32) (a3 : Int32) (a4 : Int32) (h : gk_H) : ∀ r h1, f_M_cell a0 a1 a2 a3 a4 h = some (r, h1) → gk_M (d + 1) y_M_cell b_M_cell 6 (some .int) [va_rf a0, .int a1, .int a2, .int a3, .int a4] h (.inl (gv_I r)) h1 :=
  fun r h1 e => gk_M_of2 (by decide +kernel) (by simp [lv_args, gk_cat_rf, gk_catI, gk_catJ, gk_catD, gv_V, gv_I, gv_J, gv_D, gv_R]) (by simp [lg_sl, gk_cat_rf, gk_catI, gk_catJ, gk_catD, gv_V, gv_I, gv_J, gv_D, gv_R]) (w_M_cell d a0 a1 a2 a3 a4 h r h1 e)
theorem d_M_value_0 : decode b_M_value 0 = .ok (.aload_n 0, 1) := by decide +kernel
theorem d_M_value_1 : decode b_M_value 1 = .ok (.iload_n 1, 1) := by decide +kernel
theorem d_M_value_2 : decode b_M_value 2 = .ok (.iload_n 2, 1) := by decide +kernel
theorem d_M_value_3 : decode b_M_value 3 = .ok (.iload_n 3, 1) := by decide +kernel
theorem d_M_value_4 : decode b_M_value 4 = .ok (.invokevirtual 86, 3) := by decide +kernel
theorem d_M_value_7 : decode b_M_value 7 = .ok (.istore 4, 2) := by decide +kernel
theorem d_M_value_9 : decode b_M_value 9 = .ok (.aload_n 0, 1) := by decide +kernel
theorem d_M_value_10 : decode b_M_value 10 = .ok (.iload 4, 2) := by decide +kernel
theorem d_M_value_12 : decode b_M_value 12 = .ok (.ifCond .ge 7, 3) := by decide +kernel
theorem d_M_value_15 : decode b_M_value 15 = .ok (.iconst 1, 1) := by decide +kernel
theorem d_M_value_16 : decode b_M_value 16 = .ok (.goto 4, 3) := by decide +kernel
theorem d_M_value_19 : decode b_M_value 19 = .ok (.iconst 0, 1) := by decide +kernel
theorem d_M_value_20 : decode b_M_value 20 = .ok (.putfield 46, 3) := by decide +kernel
theorem d_M_value_23 : decode b_M_value 23 = .ok (.aload_n 0, 1) := by decide +kernel
theorem d_M_value_24 : decode b_M_value 24 = .ok (.getfield 46, 3) := by decide +kernel
theorem d_M_value_27 : decode b_M_value 27 = .ok (.ifCond .gt 14, 3) := by decide +kernel
theorem d_M_value_30 : decode b_M_value 30 = .ok (.aload_n 0, 1) := by decide +kernel
theorem d_M_value_31 : decode b_M_value 31 = .ok (.getfield 23, 3) := by decide +kernel
theorem d_M_value_34 : decode b_M_value 34 = .ok (.iload 4, 2) := by decide +kernel
theorem d_M_value_36 : decode b_M_value 36 = .ok (.iaload, 1) := by decide +kernel
theorem d_M_value_37 : decode b_M_value 37 = .ok (.iconst 1, 1) := by decide +kernel
theorem d_M_value_38 : decode b_M_value 38 = .ok (.if_icmp .eq 7, 3) := by decide +kernel
theorem d_M_value_41 : decode b_M_value 41 = .ok (.dconst 0, 1) := by decide +kernel
theorem d_M_value_42 : decode b_M_value 42 = .ok (.goto 10, 3) := by decide +kernel
theorem d_M_value_45 : decode b_M_value 45 = .ok (.aload_n 0, 1) := by decide +kernel
theorem d_M_value_46 : decode b_M_value 46 = .ok (.getfield 26, 3) := by decide +kernel
theorem d_M_value_49 : decode b_M_value 49 = .ok (.iload 4, 2) := by decide +kernel
theorem d_M_value_51 : decode b_M_value 51 = .ok (.daload, 1) := by decide +kernel
theorem d_M_value_52 : decode b_M_value 52 = .ok (.dreturn, 1) := by decide +kernel
theorem p_M_value_b52 (d : Nat)  (s0 : UInt64) (h : gk_H) : gk_P gw_D (d + 1) y_M_value b_M_value 5 (some .double) [] (f_M_value_b52  s0 h) 52 [] [.double s0] h := by
  unfold f_M_value_b52
  exact gk_dret (pc := 52) rfl d_M_value_52 rfl
theorem p_M_value_b41 (d : Nat)   (h : gk_H) : gk_P gw_D (d + 1) y_M_value b_M_value 5 (some .double) [] (f_M_value_b41   h) 41 [] [] h := by
  unfold f_M_value_b41
  refine gk_dconst0 (pc := 41) d_M_value_41 ?_
  refine gk_goto (pc := 42) 52 d_M_value_42 rfl ?_
  exact p_M_value_b52 d (0x0000000000000000) h
theorem p_M_value_b20 (d : Nat)  (v0 : Option Nat) (v4 : Int32) (s0 : Option Nat) (s1 : Int32) (h : gk_H) : gk_P gw_D (d + 1) y_M_value b_M_value 5 (some .double) [] (f_M_value_b20  v0 v4 s0 s1 h) 20 [(0, va_rf v0), (4, .int v4)] [.int s1, va_rf s0] h := by
  unfold f_M_value_b20
  refine gk_putfield (pc := 20) 7 0 d_M_value_20 rfl (Nat.le_of_ble_eq_true rfl) tw_1645 (Or.inl rfl) fun h1 => ?_
  refine gk_aload_n (pc := 23) 0 d_M_value_23 rfl ?_
  refine gk_getI (pc := 24) 7 0 d_M_value_24 rfl (Nat.le_of_ble_eq_true rfl) tw_1645 fun x1 => ?_
  refine gk_if_gt (pc := 27) 41 d_M_value_27 rfl (fun _ => ?_) (fun _ => ?_)
  · refine gk_weak [] (L' := []) rfl ?_
    exact p_M_value_b41 d h1
  · refine gk_aload_n (pc := 30) 0 d_M_value_30 rfl ?_
    refine gk_getR (pc := 31) 7 7 d_M_value_31 rfl (Nat.le_of_ble_eq_true rfl) tw_1652 fun x2 => ?_
    refine gk_iload (pc := 34) 1 d_M_value_34 rfl ?_
    refine gk_iald (pc := 36) d_M_value_36 fun x3 => ?_
    refine gk_iconst (pc := 37) (1 : Int32) d_M_value_37 rfl ?_
    refine gk_icmp_eq (pc := 38) 45 d_M_value_38 rfl (fun _ => ?_) (fun _ => ?_)
    · refine gk_aload_n (pc := 45) 0 d_M_value_45 rfl ?_
      refine gk_getR (pc := 46) 7 8 d_M_value_46 rfl (Nat.le_of_ble_eq_true rfl) tw_1653 fun x4 => ?_
      refine gk_iload (pc := 49) 1 d_M_value_49 rfl ?_
      refine gk_dald (pc := 51) d_M_value_51 fun x5 => ?_
      refine gk_weak [] (L' := []) rfl ?_
      exact p_M_value_b52 d x5 h1
    · refine gk_weak [] (L' := []) rfl ?_
      exact p_M_value_b41 d h1
theorem w_M_value (d : Nat) (a0 : Option Nat) (a1 : Int32) (a2 : Int32) (a3 : Int32) (h : gk_H) : gk_P gw_D (d + 1) y_M_value b_M_value 5 (some .double) [] (f_M_value a0 a1 a2 a3 h) 0 [(0, va_rf a0), (1, .int a1), (2, .int a2), (3, .int a3)] [] h := by
  unfold f_M_value
  refine gk_aload_n (pc := 0) 0 d_M_value_0 rfl ?_
  refine gk_iload_n (pc := 1) 1 d_M_value_1 rfl ?_
  refine gk_iload_n (pc := 2) 2 d_M_value_2 rfl ?_
  refine gk_iload_n (pc := 3) 3 d_M_value_3 rfl ?_
  refine gk_callV (pc := 4) (d := d) (w' := gv_I) (as := [.int a1, .int a2, .int a3]) (n := 3) 7 d_M_value_4 rfl rfl rfl rfl (Nat.le_of_ble_eq_true rfl) tw_1781 tw_1783 tw_18 tw_99 cw_M_find hy_M_find (Nat.le_of_ble_eq_true rfl) (p_M_find d a0 a1 a2 a3 h) fun x1 h1 => ?_
  refine gk_istore (pc := 7) (L' := [(4, .int x1), (0, va_rf a0), (1, .int a1), (2, .int a2), (3, .int a3)]) d_M_value_7 (Nat.le_of_ble_eq_true rfl) rfl ?_
  refine gk_aload_n (pc := 9) 1 d_M_value_9 rfl ?_
  refine gk_iload (pc := 10) 0 d_M_value_10 rfl ?_
  refine gk_if_ge (pc := 12) 19 d_M_value_12 rfl (fun _ => ?_) (fun _ => ?_)
  · refine gk_iconst (pc := 19) (0 : Int32) d_M_value_19 rfl ?_
    refine gk_weak [1, 0] (L' := [(0, va_rf a0), (4, .int x1)]) rfl ?_
    exact p_M_value_b20 d a0 x1 a0 (0 : Int32) h1
  · refine gk_iconst (pc := 15) (1 : Int32) d_M_value_15 rfl ?_
    refine gk_goto (pc := 16) 20 d_M_value_16 rfl ?_
    refine gk_weak [1, 0] (L' := [(0, va_rf a0), (4, .int x1)]) rfl ?_
    exact p_M_value_b20 d a0 x1 a0 (1 : Int32) h1
theorem p_M_value (d : Nat) (a0 : Option Nat) (a1 : Int32) (a2 : Int32) (a3 : Int32) (h : gk_H) : ∀ r h1, f_M_value a0 a1 a2 a3 h = some (r, h1) → gk_M (d + 1) y_M_value b_M_value 5 (some .double) [va_rf a0, .int a1, .int a2, .int a3] h (.inl (gv_D r)) h1 :=
  fun r h1 e => gk_M_of2 (by decide +kernel) (by simp [lv_args, gk_cat_rf, gk_catI, gk_catJ, gk_catD, gv_V, gv_I, gv_J, gv_D, gv_R]) (by simp [lg_sl, gk_cat_rf, gk_catI, gk_catJ, gk_catD, gv_V, gv_I, gv_J, gv_D, gv_R]) (w_M_value d a0 a1 a2 a3 h r h1 e)
theorem d_M_letter_0 : decode b_M_letter 0 = .ok (.aload_n 0, 1) := by decide +kernel
theorem d_M_letter_1 : decode b_M_letter 1 = .ok (.iload_n 1, 1) := by decide +kernel
theorem d_M_letter_2 : decode b_M_letter 2 = .ok (.iload_n 2, 1) := by decide +kernel
theorem d_M_letter_3 : decode b_M_letter 3 = .ok (.iload_n 3, 1) := by decide +kernel
theorem d_M_letter_4 : decode b_M_letter 4 = .ok (.invokevirtual 86, 3) := by decide +kernel
theorem d_M_letter_7 : decode b_M_letter 7 = .ok (.istore 5, 2) := by decide +kernel
theorem d_M_letter_9 : decode b_M_letter 9 = .ok (.aload_n 0, 1) := by decide +kernel
theorem d_M_letter_10 : decode b_M_letter 10 = .ok (.iload 5, 2) := by decide +kernel
theorem d_M_letter_12 : decode b_M_letter 12 = .ok (.ifCond .ge 7, 3) := by decide +kernel
theorem d_M_letter_15 : decode b_M_letter 15 = .ok (.iconst 1, 1) := by decide +kernel
theorem d_M_letter_16 : decode b_M_letter 16 = .ok (.goto 4, 3) := by decide +kernel
theorem d_M_letter_19 : decode b_M_letter 19 = .ok (.iconst 0, 1) := by decide +kernel
theorem d_M_letter_20 : decode b_M_letter 20 = .ok (.putfield 46, 3) := by decide +kernel
theorem d_M_letter_23 : decode b_M_letter 23 = .ok (.aload_n 0, 1) := by decide +kernel
theorem d_M_letter_24 : decode b_M_letter 24 = .ok (.getfield 46, 3) := by decide +kernel
theorem d_M_letter_27 : decode b_M_letter 27 = .ok (.ifCond .le 5, 3) := by decide +kernel
theorem d_M_letter_30 : decode b_M_letter 30 = .ok (.iconst 0, 1) := by decide +kernel
theorem d_M_letter_31 : decode b_M_letter 31 = .ok (.ireturn, 1) := by decide +kernel
theorem d_M_letter_32 : decode b_M_letter 32 = .ok (.aload_n 0, 1) := by decide +kernel
theorem d_M_letter_33 : decode b_M_letter 33 = .ok (.getfield 23, 3) := by decide +kernel
theorem d_M_letter_36 : decode b_M_letter 36 = .ok (.iload 5, 2) := by decide +kernel
theorem d_M_letter_38 : decode b_M_letter 38 = .ok (.iaload, 1) := by decide +kernel
theorem d_M_letter_39 : decode b_M_letter 39 = .ok (.iconst 2, 1) := by decide +kernel
theorem d_M_letter_40 : decode b_M_letter 40 = .ok (.if_icmp .ne 20, 3) := by decide +kernel
theorem d_M_letter_43 : decode b_M_letter 43 = .ok (.iload 4, 2) := by decide +kernel
theorem d_M_letter_45 : decode b_M_letter 45 = .ok (.ifCond .lt 15, 3) := by decide +kernel
theorem d_M_letter_48 : decode b_M_letter 48 = .ok (.iload 4, 2) := by decide +kernel
theorem d_M_letter_50 : decode b_M_letter 50 = .ok (.aload_n 0, 1) := by decide +kernel
theorem d_M_letter_51 : decode b_M_letter 51 = .ok (.getfield 30, 3) := by decide +kernel
theorem d_M_letter_54 : decode b_M_letter 54 = .ok (.iload 5, 2) := by decide +kernel
theorem d_M_letter_56 : decode b_M_letter 56 = .ok (.iaload, 1) := by decide +kernel
theorem d_M_letter_57 : decode b_M_letter 57 = .ok (.if_icmp .lt 7, 3) := by decide +kernel
theorem d_M_letter_60 : decode b_M_letter 60 = .ok (.iconst (-1), 1) := by decide +kernel
theorem d_M_letter_61 : decode b_M_letter 61 = .ok (.goto 17, 3) := by decide +kernel
theorem d_M_letter_64 : decode b_M_letter 64 = .ok (.aload_n 0, 1) := by decide +kernel
theorem d_M_letter_65 : decode b_M_letter 65 = .ok (.getfield 34, 3) := by decide +kernel
theorem d_M_letter_68 : decode b_M_letter 68 = .ok (.sipush 256, 3) := by decide +kernel
theorem d_M_letter_71 : decode b_M_letter 71 = .ok (.iload 5, 2) := by decide +kernel
theorem d_M_letter_73 : decode b_M_letter 73 = .ok (.imul, 1) := by decide +kernel
theorem d_M_letter_74 : decode b_M_letter 74 = .ok (.iload 4, 2) := by decide +kernel
theorem d_M_letter_76 : decode b_M_letter 76 = .ok (.iadd, 1) := by decide +kernel
theorem d_M_letter_77 : decode b_M_letter 77 = .ok (.baload, 1) := by decide +kernel
theorem d_M_letter_78 : decode b_M_letter 78 = .ok (.ireturn, 1) := by decide +kernel
theorem p_M_letter_b78 (d : Nat)  (s0 : Int32) (h : gk_H) : gk_P gw_I (d + 1) y_M_letter b_M_letter 6 (some .int) [] (f_M_letter_b78  s0 h) 78 [] [.int s0] h := by
  unfold f_M_letter_b78
  exact gk_iret (pc := 78) rfl d_M_letter_78 rfl
theorem p_M_letter_b60 (d : Nat)   (h : gk_H) : gk_P gw_I (d + 1) y_M_letter b_M_letter 6 (some .int) [] (f_M_letter_b60   h) 60 [] [] h := by
  unfold f_M_letter_b60
  refine gk_iconst (pc := 60) (-1 : Int32) d_M_letter_60 rfl ?_
  refine gk_goto (pc := 61) 78 d_M_letter_61 rfl ?_
  exact p_M_letter_b78 d (-1 : Int32) h
theorem p_M_letter_b20 (d : Nat)  (v0 : Option Nat) (v4 : Int32) (v5 : Int32) (s0 : Option Nat) (s1 : Int32) (h : gk_H) : gk_P gw_I (d + 1) y_M_letter b_M_letter 6 (some .int) [] (f_M_letter_b20  v0 v4 v5 s0 s1 h) 20 [(0, va_rf v0), (4, .int v4), (5, .int v5)] [.int s1, va_rf s0] h := by
  unfold f_M_letter_b20
  refine gk_putfield (pc := 20) 7 0 d_M_letter_20 rfl (Nat.le_of_ble_eq_true rfl) tw_1645 (Or.inl rfl) fun h1 => ?_
  refine gk_aload_n (pc := 23) 0 d_M_letter_23 rfl ?_
  refine gk_getI (pc := 24) 7 0 d_M_letter_24 rfl (Nat.le_of_ble_eq_true rfl) tw_1645 fun x1 => ?_
  refine gk_if_le (pc := 27) 32 d_M_letter_27 rfl (fun _ => ?_) (fun _ => ?_)
  · refine gk_aload_n (pc := 32) 0 d_M_letter_32 rfl ?_
    refine gk_getR (pc := 33) 7 7 d_M_letter_33 rfl (Nat.le_of_ble_eq_true rfl) tw_1652 fun x2 => ?_
    refine gk_iload (pc := 36) 2 d_M_letter_36 rfl ?_
    refine gk_iald (pc := 38) d_M_letter_38 fun x3 => ?_
    refine gk_iconst (pc := 39) (2 : Int32) d_M_letter_39 rfl ?_
    refine gk_icmp_ne (pc := 40) 60 d_M_letter_40 rfl (fun _ => ?_) (fun _ => ?_)
    · refine gk_iload (pc := 43) 1 d_M_letter_43 rfl ?_
      refine gk_if_lt (pc := 45) 60 d_M_letter_45 rfl (fun _ => ?_) (fun _ => ?_)
      · refine gk_weak [] (L' := []) rfl ?_
        exact p_M_letter_b60 d h1
      · refine gk_iload (pc := 48) 1 d_M_letter_48 rfl ?_
        refine gk_aload_n (pc := 50) 0 d_M_letter_50 rfl ?_
        refine gk_getR (pc := 51) 7 9 d_M_letter_51 rfl (Nat.le_of_ble_eq_true rfl) tw_1654 fun x4 => ?_
        refine gk_iload (pc := 54) 2 d_M_letter_54 rfl ?_
        refine gk_iald (pc := 56) d_M_letter_56 fun x5 => ?_
        refine gk_icmp_lt (pc := 57) 64 d_M_letter_57 rfl (fun _ => ?_) (fun _ => ?_)
        · refine gk_aload_n (pc := 64) 0 d_M_letter_64 rfl ?_
          refine gk_getR (pc := 65) 7 10 d_M_letter_65 rfl (Nat.le_of_ble_eq_true rfl) tw_1655 fun x6 => ?_
          refine gk_sipush (pc := 68) (256 : Int32) d_M_letter_68 rfl ?_
          refine gk_iload (pc := 71) 2 d_M_letter_71 rfl ?_
          refine gk_imul (pc := 73) d_M_letter_73 ?_
          refine gk_iload (pc := 74) 1 d_M_letter_74 rfl ?_
          refine gk_iadd (pc := 76) d_M_letter_76 ?_
          refine gk_bald (pc := 77) d_M_letter_77 fun x7 => ?_
          refine gk_weak [] (L' := []) rfl ?_
          exact p_M_letter_b78 d x7 h1
        · refine gk_weak [] (L' := []) rfl ?_
          exact p_M_letter_b60 d h1
    · refine gk_weak [] (L' := []) rfl ?_
      exact p_M_letter_b60 d h1
  · refine gk_iconst (pc := 30) (0 : Int32) d_M_letter_30 rfl ?_
    exact gk_iret (pc := 31) rfl d_M_letter_31 rfl
theorem w_M_letter (d : Nat) (a0 : Option Nat) (a1 : Int32) (a2 : Int32) (a3 : Int32) (a4 : Int32) (h : gk_H) : gk_P gw_I (d + 1) y_M_letter b_M_letter 6 (some .int) [] (f_M_letter a0 a1 a2 a3 a4 h) 0 [(0, va_rf a0), (1, .int a1), (2, .int a2), (3, .int a3), (4, .int a4)] [] h := by
  unfold f_M_letter
  refine gk_aload_n (pc := 0) 0 d_M_letter_0 rfl ?_
  refine gk_iload_n (pc := 1) 1 d_M_letter_1 rfl ?_
  refine gk_iload_n (pc := 2) 2 d_M_letter_2 rfl ?_
  refine gk_iload_n (pc := 3) 3 d_M_letter_3 rfl ?_
  refine gk_callV (pc := 4) (d := d) (w' := gv_I) (as := [.int a1, .int a2, .int a3]) (n := 3) 7 d_M_letter_4 rfl rfl rfl rfl (Nat.le_of_ble_eq_true rfl) tw_1781 tw_1783 tw_18 tw_99 cw_M_find hy_M_find (Nat.le_of_ble_eq_true rfl) (p_M_find d a0 a1 a2 a3 h) fun x1 h1 => ?_
  refine gk_istore (pc := 7) (L' := [(5, .int x1), (0, va_rf a0), (1, .int a1), (2, .int a2), (3, .int a3), (4, .int a4)]) d_M_letter_7 (Nat.le_of_ble_eq_true rfl) rfl ?_
  refine gk_aload_n (pc := 9) 1 d_M_letter_9 rfl ?_
  refine gk_iload (pc := 10) 0 d_M_letter_10 rfl ?_
  refine gk_if_ge (pc := 12) 19 d_M_letter_12 rfl (fun _ => ?_) (fun _ => ?_)
  · refine gk_iconst (pc := 19) (0 : Int32) d_M_letter_19 rfl ?_
    refine gk_weak [1, 5, 0] (L' := [(0, va_rf a0), (4, .int a4), (5, .int x1)]) rfl ?_
    exact p_M_letter_b20 d a0 a4 x1 a0 (0 : Int32) h1
  · refine gk_iconst (pc := 15) (1 : Int32) d_M_letter_15 rfl ?_
    refine gk_goto (pc := 16) 20 d_M_letter_16 rfl ?_
    refine gk_weak [1, 5, 0] (L' := [(0, va_rf a0), (4, .int a4), (5, .int x1)]) rfl ?_
    exact p_M_letter_b20 d a0 a4 x1 a0 (1 : Int32) h1
theorem p_M_letter (d : Nat) (a0 : Option Nat) (a1 : Int32) (a2 : Int32) (a3 : Int32) (a4 : Int32) (h : gk_H) : ∀ r h1, f_M_letter a0 a1 a2 a3 a4 h = some (r, h1) → gk_M (d + 1) y_M_letter b_M_letter 6 (some .int) [va_rf a0, .int a1, .int a2, .int a3, .int a4] h (.inl (gv_I r)) h1 :=
  fun r h1 e => gk_M_of2 (by decide +kernel) (by simp [lv_args, gk_cat_rf, gk_catI, gk_catJ, gk_catD, gv_V, gv_I, gv_J, gv_D, gv_R]) (by simp [lg_sl, gk_cat_rf, gk_catI, gk_catJ, gk_catD, gv_V, gv_I, gv_J, gv_D, gv_R]) (w_M_letter d a0 a1 a2 a3 a4 h r h1 e)
