theorem d_Da_answer_0 : decode b_Da_answer 0 = .ok (.iload_n 0, 1) := by decide +kernel
theorem d_Da_answer_1 : decode b_Da_answer 1 = .ok (.tableswitch 147 81 91 #[59, 78, 78, 78, 88, 103, 103, 118, 137, 137, 137], 59) := by decide +kernel
theorem d_Da_answer_60 : decode b_Da_answer 60 = .ok (.aload_n 1, 1) := by decide +kernel
theorem d_Da_answer_61 : decode b_Da_answer 61 = .ok (.iconst 0, 1) := by decide +kernel
theorem d_Da_answer_62 : decode b_Da_answer 62 = .ok (.invokevirtual 9, 3) := by decide +kernel
theorem d_Da_answer_65 : decode b_Da_answer 65 = .ok (.aload_n 1, 1) := by decide +kernel
theorem d_Da_answer_66 : decode b_Da_answer 66 = .ok (.iconst 1, 1) := by decide +kernel
theorem d_Da_answer_67 : decode b_Da_answer 67 = .ok (.invokevirtual 9, 3) := by decide +kernel
theorem d_Da_answer_70 : decode b_Da_answer 70 = .ok (.aload_n 1, 1) := by decide +kernel
theorem d_Da_answer_71 : decode b_Da_answer 71 = .ok (.iconst 2, 1) := by decide +kernel
theorem d_Da_answer_72 : decode b_Da_answer 72 = .ok (.invokevirtual 9, 3) := by decide +kernel
theorem d_Da_answer_75 : decode b_Da_answer 75 = .ok (.invokestatic 15, 3) := by decide +kernel
theorem d_Da_answer_78 : decode b_Da_answer 78 = .ok (.areturn, 1) := by decide +kernel
theorem d_Da_answer_79 : decode b_Da_answer 79 = .ok (.iload_n 0, 1) := by decide +kernel
theorem d_Da_answer_80 : decode b_Da_answer 80 = .ok (.aload_n 1, 1) := by decide +kernel
theorem d_Da_answer_81 : decode b_Da_answer 81 = .ok (.iconst 0, 1) := by decide +kernel
theorem d_Da_answer_82 : decode b_Da_answer 82 = .ok (.invokevirtual 21, 3) := by decide +kernel
theorem d_Da_answer_85 : decode b_Da_answer 85 = .ok (.invokestatic 25, 3) := by decide +kernel
theorem d_Da_answer_88 : decode b_Da_answer 88 = .ok (.areturn, 1) := by decide +kernel
theorem d_Da_answer_89 : decode b_Da_answer 89 = .ok (.aload_n 1, 1) := by decide +kernel
theorem d_Da_answer_90 : decode b_Da_answer 90 = .ok (.iconst 0, 1) := by decide +kernel
theorem d_Da_answer_91 : decode b_Da_answer 91 = .ok (.invokevirtual 21, 3) := by decide +kernel
theorem d_Da_answer_94 : decode b_Da_answer 94 = .ok (.aload_n 1, 1) := by decide +kernel
theorem d_Da_answer_95 : decode b_Da_answer 95 = .ok (.iconst 1, 1) := by decide +kernel
theorem d_Da_answer_96 : decode b_Da_answer 96 = .ok (.lconst 1, 1) := by decide +kernel
theorem d_Da_answer_97 : decode b_Da_answer 97 = .ok (.invokevirtual 29, 3) := by decide +kernel
theorem d_Da_answer_100 : decode b_Da_answer 100 = .ok (.invokestatic 33, 3) := by decide +kernel
theorem d_Da_answer_103 : decode b_Da_answer 103 = .ok (.areturn, 1) := by decide +kernel
theorem d_Da_answer_104 : decode b_Da_answer 104 = .ok (.iload_n 0, 1) := by decide +kernel
theorem d_Da_answer_105 : decode b_Da_answer 105 = .ok (.aload_n 1, 1) := by decide +kernel
theorem d_Da_answer_106 : decode b_Da_answer 106 = .ok (.iconst 0, 1) := by decide +kernel
theorem d_Da_answer_107 : decode b_Da_answer 107 = .ok (.invokevirtual 21, 3) := by decide +kernel
theorem d_Da_answer_110 : decode b_Da_answer 110 = .ok (.aload_n 1, 1) := by decide +kernel
theorem d_Da_answer_111 : decode b_Da_answer 111 = .ok (.iconst 1, 1) := by decide +kernel
theorem d_Da_answer_112 : decode b_Da_answer 112 = .ok (.invokevirtual 9, 3) := by decide +kernel
theorem d_Da_answer_115 : decode b_Da_answer 115 = .ok (.invokestatic 37, 3) := by decide +kernel
theorem d_Da_answer_118 : decode b_Da_answer 118 = .ok (.areturn, 1) := by decide +kernel
theorem d_Da_answer_119 : decode b_Da_answer 119 = .ok (.aload_n 1, 1) := by decide +kernel
theorem d_Da_answer_120 : decode b_Da_answer 120 = .ok (.iconst 0, 1) := by decide +kernel
theorem d_Da_answer_121 : decode b_Da_answer 121 = .ok (.invokevirtual 9, 3) := by decide +kernel
theorem d_Da_answer_124 : decode b_Da_answer 124 = .ok (.aload_n 1, 1) := by decide +kernel
theorem d_Da_answer_125 : decode b_Da_answer 125 = .ok (.iconst 1, 1) := by decide +kernel
theorem d_Da_answer_126 : decode b_Da_answer 126 = .ok (.invokevirtual 9, 3) := by decide +kernel
theorem d_Da_answer_129 : decode b_Da_answer 129 = .ok (.aload_n 1, 1) := by decide +kernel
theorem d_Da_answer_130 : decode b_Da_answer 130 = .ok (.iconst 2, 1) := by decide +kernel
theorem d_Da_answer_131 : decode b_Da_answer 131 = .ok (.invokevirtual 9, 3) := by decide +kernel
theorem d_Da_answer_134 : decode b_Da_answer 134 = .ok (.invokestatic 41, 3) := by decide +kernel
theorem d_Da_answer_137 : decode b_Da_answer 137 = .ok (.areturn, 1) := by decide +kernel
theorem d_Da_answer_138 : decode b_Da_answer 138 = .ok (.iload_n 0, 1) := by decide +kernel
theorem d_Da_answer_139 : decode b_Da_answer 139 = .ok (.aload_n 1, 1) := by decide +kernel
theorem d_Da_answer_140 : decode b_Da_answer 140 = .ok (.iconst 0, 1) := by decide +kernel
theorem d_Da_answer_141 : decode b_Da_answer 141 = .ok (.invokevirtual 21, 3) := by decide +kernel
theorem d_Da_answer_144 : decode b_Da_answer 144 = .ok (.invokestatic 44, 3) := by decide +kernel
theorem d_Da_answer_147 : decode b_Da_answer 147 = .ok (.areturn, 1) := by decide +kernel
theorem d_Da_answer_148 : decode b_Da_answer 148 = .ok (.iconst 3, 1) := by decide +kernel
theorem d_Da_answer_149 : decode b_Da_answer 149 = .ok (.invokestatic 49, 3) := by decide +kernel
theorem d_Da_answer_152 : decode b_Da_answer 152 = .ok (.areturn, 1) := by decide +kernel
theorem p_Da_answer_b79 (d : Nat)  (v0 : Int32) (v1 : Option Nat) (h : gk_H) : gk_P gw_R (d + 9) y_Da_answer b_Da_answer 2 (some (.object "ValueAlgebra$Value")) [] (f_Da_answer_b79  v0 v1 h) 79 [(0, .int v0), (1, va_rf v1)] [] h := by
  unfold f_Da_answer_b79
  refine gk_iload_n (pc := 79) 0 d_Da_answer_79 rfl ?_
  refine gk_aload_n (pc := 80) 1 d_Da_answer_80 rfl ?_
  refine gk_iconst (pc := 81) (0 : Int32) d_Da_answer_81 rfl ?_
  refine gk_callV (pc := 82) (d := (d + 8)) (w' := gv_D) (as := [.int (0 : Int32)]) (n := 1) 4 d_Da_answer_82 rfl rfl rfl rfl (Nat.le_of_ble_eq_true rfl) tw_1532 tw_788 tw_789 tw_96 cw_Ar_amount hy_Ar_amount (Nat.le_of_ble_eq_true rfl) (p_Ar_amount (d + 2) v1 (0 : Int32) h) fun x1 h1 => ?_
  refine gk_callS (pc := 85) (d := (d + 8)) (w' := gv_R) (as := [.int v0, .double x1]) (n := 2) d_Da_answer_85 rfl rfl (Nat.le_of_ble_eq_true rfl) tw_1533 tw_1534 tw_124 cw_Da_partOfDate hy_Da_partOfDate (Nat.le_of_ble_eq_true rfl) (p_Da_partOfDate (d + 5) v0 x1 h1) fun x2 h2 => ?_
  exact gk_aret (pc := 88) rfl d_Da_answer_88 rfl (Or.inl ⟨_, rfl⟩)
theorem p_Da_answer_b104 (d : Nat)  (v0 : Int32) (v1 : Option Nat) (h : gk_H) : gk_P gw_R (d + 9) y_Da_answer b_Da_answer 2 (some (.object "ValueAlgebra$Value")) [] (f_Da_answer_b104  v0 v1 h) 104 [(0, .int v0), (1, va_rf v1)] [] h := by
  unfold f_Da_answer_b104
  refine gk_iload_n (pc := 104) 0 d_Da_answer_104 rfl ?_
  refine gk_aload_n (pc := 105) 1 d_Da_answer_105 rfl ?_
  refine gk_iconst (pc := 106) (0 : Int32) d_Da_answer_106 rfl ?_
  refine gk_callV (pc := 107) (d := (d + 8)) (w' := gv_D) (as := [.int (0 : Int32)]) (n := 1) 4 d_Da_answer_107 rfl rfl rfl rfl (Nat.le_of_ble_eq_true rfl) tw_1532 tw_788 tw_789 tw_96 cw_Ar_amount hy_Ar_amount (Nat.le_of_ble_eq_true rfl) (p_Ar_amount (d + 2) v1 (0 : Int32) h) fun x1 h1 => ?_
  refine gk_aload_n (pc := 110) 1 d_Da_answer_110 rfl ?_
  refine gk_iconst (pc := 111) (1 : Int32) d_Da_answer_111 rfl ?_
  refine gk_callV (pc := 112) (d := (d + 8)) (w' := gv_J) (as := [.int (1 : Int32)]) (n := 1) 4 d_Da_answer_112 rfl rfl rfl rfl (Nat.le_of_ble_eq_true rfl) tw_1504 tw_1065 tw_1066 tw_96 cw_Ar_whole hy_Ar_whole (Nat.le_of_ble_eq_true rfl) (p_Ar_whole (d + 1) v1 (1 : Int32) h1) fun x2 h2 => ?_
  refine gk_callS (pc := 115) (d := (d + 8)) (w' := gv_R) (as := [.int v0, .double x1, .long x2]) (n := 3) d_Da_answer_115 rfl rfl (Nat.le_of_ble_eq_true rfl) tw_1550 tw_1551 tw_124 cw_Da_monthsOn hy_Da_monthsOn (Nat.le_of_ble_eq_true rfl) (p_Da_monthsOn (d + 4) v0 x1 x2 h2) fun x3 h3 => ?_
  exact gk_aret (pc := 118) rfl d_Da_answer_118 rfl (Or.inl ⟨_, rfl⟩)
theorem p_Da_answer_b138 (d : Nat)  (v0 : Int32) (v1 : Option Nat) (h : gk_H) : gk_P gw_R (d + 9) y_Da_answer b_Da_answer 2 (some (.object "ValueAlgebra$Value")) [] (f_Da_answer_b138  v0 v1 h) 138 [(0, .int v0), (1, va_rf v1)] [] h := by
  unfold f_Da_answer_b138
  refine gk_iload_n (pc := 138) 0 d_Da_answer_138 rfl ?_
  refine gk_aload_n (pc := 139) 1 d_Da_answer_139 rfl ?_
  refine gk_iconst (pc := 140) (0 : Int32) d_Da_answer_140 rfl ?_
  refine gk_callV (pc := 141) (d := (d + 8)) (w' := gv_D) (as := [.int (0 : Int32)]) (n := 1) 4 d_Da_answer_141 rfl rfl rfl rfl (Nat.le_of_ble_eq_true rfl) tw_1532 tw_788 tw_789 tw_96 cw_Ar_amount hy_Ar_amount (Nat.le_of_ble_eq_true rfl) (p_Ar_amount (d + 2) v1 (0 : Int32) h) fun x1 h1 => ?_
  refine gk_callS (pc := 144) (d := (d + 8)) (w' := gv_R) (as := [.int v0, .double x1]) (n := 2) d_Da_answer_144 rfl rfl (Nat.le_of_ble_eq_true rfl) tw_1561 tw_1562 tw_124 cw_Da_partOfDay hy_Da_partOfDay (Nat.le_of_ble_eq_true rfl) (p_Da_partOfDay (d + 5) v0 x1 h1) fun x2 h2 => ?_
  exact gk_aret (pc := 147) rfl d_Da_answer_147 rfl (Or.inl ⟨_, rfl⟩)
theorem w_Da_answer (d : Nat) (a0 : Int32) (a1 : Option Nat) (h : gk_H) : gk_P gw_R (d + 9) y_Da_answer b_Da_answer 2 (some (.object "ValueAlgebra$Value")) [] (f_Da_answer a0 a1 h) 0 [(0, .int a0), (1, va_rf a1)] [] h := by
  unfold f_Da_answer
  refine gk_iload_n (pc := 0) 0 d_Da_answer_0 rfl ?_
  refine gk_ite (fun z1_0 => ?_) (fun z1_0 => ?_)
  · refine gk_tsw_in (pc := 1) (81 : Int32) 60 d_Da_answer_1 z1_0 (by decide) (by decide) rfl rfl ?_
    refine gk_aload_n (pc := 60) 1 d_Da_answer_60 rfl ?_
    refine gk_iconst (pc := 61) (0 : Int32) d_Da_answer_61 rfl ?_
    refine gk_callV (pc := 62) (d := (d + 8)) (w' := gv_J) (as := [.int (0 : Int32)]) (n := 1) 4 d_Da_answer_62 rfl rfl rfl rfl (Nat.le_of_ble_eq_true rfl) tw_1504 tw_1065 tw_1066 tw_96 cw_Ar_whole hy_Ar_whole (Nat.le_of_ble_eq_true rfl) (p_Ar_whole (d + 1) a1 (0 : Int32) h) fun x1 h1 => ?_
    refine gk_aload_n (pc := 65) 1 d_Da_answer_65 rfl ?_
    refine gk_iconst (pc := 66) (1 : Int32) d_Da_answer_66 rfl ?_
    refine gk_callV (pc := 67) (d := (d + 8)) (w' := gv_J) (as := [.int (1 : Int32)]) (n := 1) 4 d_Da_answer_67 rfl rfl rfl rfl (Nat.le_of_ble_eq_true rfl) tw_1504 tw_1065 tw_1066 tw_96 cw_Ar_whole hy_Ar_whole (Nat.le_of_ble_eq_true rfl) (p_Ar_whole (d + 1) a1 (1 : Int32) h1) fun x2 h2 => ?_
    refine gk_aload_n (pc := 70) 1 d_Da_answer_70 rfl ?_
    refine gk_iconst (pc := 71) (2 : Int32) d_Da_answer_71 rfl ?_
    refine gk_callV (pc := 72) (d := (d + 8)) (w' := gv_J) (as := [.int (2 : Int32)]) (n := 1) 4 d_Da_answer_72 rfl rfl rfl rfl (Nat.le_of_ble_eq_true rfl) tw_1504 tw_1065 tw_1066 tw_96 cw_Ar_whole hy_Ar_whole (Nat.le_of_ble_eq_true rfl) (p_Ar_whole (d + 1) a1 (2 : Int32) h2) fun x3 h3 => ?_
    refine gk_callS (pc := 75) (d := (d + 8)) (w' := gv_R) (as := [.long x1, .long x2, .long x3]) (n := 3) d_Da_answer_75 rfl rfl (Nat.le_of_ble_eq_true rfl) tw_1505 tw_1506 tw_124 cw_Da_date hy_Da_date (Nat.le_of_ble_eq_true rfl) (p_Da_date (d + 4) x1 x2 x3 h3) fun x4 h4 => ?_
    exact gk_aret (pc := 78) rfl d_Da_answer_78 rfl (Or.inl ⟨_, rfl⟩)
  ·
    refine gk_ite (fun z1_1 => ?_) (fun z1_1 => ?_)
    · refine gk_tsw_in (pc := 1) (82 : Int32) 79 d_Da_answer_1 z1_1 (by decide) (by decide) rfl rfl ?_
      exact p_Da_answer_b79 d a0 a1 h
    ·
      refine gk_ite (fun z1_2 => ?_) (fun z1_2 => ?_)
      · refine gk_tsw_in (pc := 1) (83 : Int32) 79 d_Da_answer_1 z1_2 (by decide) (by decide) rfl rfl ?_
        exact p_Da_answer_b79 d a0 a1 h
      ·
        refine gk_ite (fun z1_3 => ?_) (fun z1_3 => ?_)
        · refine gk_tsw_in (pc := 1) (84 : Int32) 79 d_Da_answer_1 z1_3 (by decide) (by decide) rfl rfl ?_
          exact p_Da_answer_b79 d a0 a1 h
        ·
          refine gk_ite (fun z1_4 => ?_) (fun z1_4 => ?_)
          · refine gk_tsw_in (pc := 1) (85 : Int32) 89 d_Da_answer_1 z1_4 (by decide) (by decide) rfl rfl ?_
            refine gk_aload_n (pc := 89) 1 d_Da_answer_89 rfl ?_
            refine gk_iconst (pc := 90) (0 : Int32) d_Da_answer_90 rfl ?_
            refine gk_callV (pc := 91) (d := (d + 8)) (w' := gv_D) (as := [.int (0 : Int32)]) (n := 1) 4 d_Da_answer_91 rfl rfl rfl rfl (Nat.le_of_ble_eq_true rfl) tw_1532 tw_788 tw_789 tw_96 cw_Ar_amount hy_Ar_amount (Nat.le_of_ble_eq_true rfl) (p_Ar_amount (d + 2) a1 (0 : Int32) h) fun x5 h5 => ?_
            refine gk_aload_n (pc := 94) 1 d_Da_answer_94 rfl ?_
            refine gk_iconst (pc := 95) (1 : Int32) d_Da_answer_95 rfl ?_
            refine gk_lconst (pc := 96) (1 : Int64) d_Da_answer_96 rfl ?_
            refine gk_callV (pc := 97) (d := (d + 8)) (w' := gv_J) (as := [.int (1 : Int32), .long (1 : Int64)]) (n := 2) 4 d_Da_answer_97 rfl rfl rfl rfl (Nat.le_of_ble_eq_true rfl) tw_1544 tw_1286 tw_1287 tw_96 cw_Ar_wholeOr hy_Ar_wholeOr (Nat.le_of_ble_eq_true rfl) (p_Ar_wholeOr d a1 (1 : Int32) (1 : Int64) h5) fun x6 h6 => ?_
            refine gk_callS (pc := 100) (d := (d + 8)) (w' := gv_R) (as := [.double x5, .long x6]) (n := 2) d_Da_answer_100 rfl rfl (Nat.le_of_ble_eq_true rfl) tw_1545 tw_1546 tw_124 cw_Da_weekday hy_Da_weekday (Nat.le_of_ble_eq_true rfl) (p_Da_weekday (d + 5) x5 x6 h6) fun x7 h7 => ?_
            exact gk_aret (pc := 103) rfl d_Da_answer_103 rfl (Or.inl ⟨_, rfl⟩)
          ·
            refine gk_ite (fun z1_5 => ?_) (fun z1_5 => ?_)
            · refine gk_tsw_in (pc := 1) (86 : Int32) 104 d_Da_answer_1 z1_5 (by decide) (by decide) rfl rfl ?_
              exact p_Da_answer_b104 d a0 a1 h
            ·
              refine gk_ite (fun z1_6 => ?_) (fun z1_6 => ?_)
              · refine gk_tsw_in (pc := 1) (87 : Int32) 104 d_Da_answer_1 z1_6 (by decide) (by decide) rfl rfl ?_
                exact p_Da_answer_b104 d a0 a1 h
              ·
                refine gk_ite (fun z1_7 => ?_) (fun z1_7 => ?_)
                · refine gk_tsw_in (pc := 1) (88 : Int32) 119 d_Da_answer_1 z1_7 (by decide) (by decide) rfl rfl ?_
                  refine gk_aload_n (pc := 119) 1 d_Da_answer_119 rfl ?_
                  refine gk_iconst (pc := 120) (0 : Int32) d_Da_answer_120 rfl ?_
                  refine gk_callV (pc := 121) (d := (d + 8)) (w' := gv_J) (as := [.int (0 : Int32)]) (n := 1) 4 d_Da_answer_121 rfl rfl rfl rfl (Nat.le_of_ble_eq_true rfl) tw_1504 tw_1065 tw_1066 tw_96 cw_Ar_whole hy_Ar_whole (Nat.le_of_ble_eq_true rfl) (p_Ar_whole (d + 1) a1 (0 : Int32) h) fun x8 h8 => ?_
                  refine gk_aload_n (pc := 124) 1 d_Da_answer_124 rfl ?_
                  refine gk_iconst (pc := 125) (1 : Int32) d_Da_answer_125 rfl ?_
                  refine gk_callV (pc := 126) (d := (d + 8)) (w' := gv_J) (as := [.int (1 : Int32)]) (n := 1) 4 d_Da_answer_126 rfl rfl rfl rfl (Nat.le_of_ble_eq_true rfl) tw_1504 tw_1065 tw_1066 tw_96 cw_Ar_whole hy_Ar_whole (Nat.le_of_ble_eq_true rfl) (p_Ar_whole (d + 1) a1 (1 : Int32) h8) fun x9 h9 => ?_
                  refine gk_aload_n (pc := 129) 1 d_Da_answer_129 rfl ?_
                  refine gk_iconst (pc := 130) (2 : Int32) d_Da_answer_130 rfl ?_
                  refine gk_callV (pc := 131) (d := (d + 8)) (w' := gv_J) (as := [.int (2 : Int32)]) (n := 1) 4 d_Da_answer_131 rfl rfl rfl rfl (Nat.le_of_ble_eq_true rfl) tw_1504 tw_1065 tw_1066 tw_96 cw_Ar_whole hy_Ar_whole (Nat.le_of_ble_eq_true rfl) (p_Ar_whole (d + 1) a1 (2 : Int32) h9) fun x10 h10 => ?_
                  refine gk_callS (pc := 134) (d := (d + 8)) (w' := gv_R) (as := [.long x8, .long x9, .long x10]) (n := 3) d_Da_answer_134 rfl rfl (Nat.le_of_ble_eq_true rfl) tw_1554 tw_1555 tw_124 cw_Da_time hy_Da_time (Nat.le_of_ble_eq_true rfl) (p_Da_time (d + 5) x8 x9 x10 h10) fun x11 h11 => ?_
                  exact gk_aret (pc := 137) rfl d_Da_answer_137 rfl (Or.inl ⟨_, rfl⟩)
                ·
                  refine gk_ite (fun z1_8 => ?_) (fun z1_8 => ?_)
                  · refine gk_tsw_in (pc := 1) (89 : Int32) 138 d_Da_answer_1 z1_8 (by decide) (by decide) rfl rfl ?_
                    exact p_Da_answer_b138 d a0 a1 h
                  ·
                    refine gk_ite (fun z1_9 => ?_) (fun z1_9 => ?_)
                    · refine gk_tsw_in (pc := 1) (90 : Int32) 138 d_Da_answer_1 z1_9 (by decide) (by decide) rfl rfl ?_
                      exact p_Da_answer_b138 d a0 a1 h
                    ·
                      refine gk_ite (fun z1_10 => ?_) (fun z1_10 => ?_)
                      · refine gk_tsw_in (pc := 1) (91 : Int32) 138 d_Da_answer_1 z1_10 (by decide) (by decide) rfl rfl ?_
                        exact p_Da_answer_b138 d a0 a1 h
                      ·
                        refine gk_tsw_out (pc := 1) 148 d_Da_answer_1 (by have e0 := gk_neT z1_0 (by decide : (81 : Int32).toInt = 81); have e1 := gk_neT z1_1 (by decide : (82 : Int32).toInt = 82); have e2 := gk_neT z1_2 (by decide : (83 : Int32).toInt = 83); have e3 := gk_neT z1_3 (by decide : (84 : Int32).toInt = 84); have e4 := gk_neT z1_4 (by decide : (85 : Int32).toInt = 85); have e5 := gk_neT z1_5 (by decide : (86 : Int32).toInt = 86); have e6 := gk_neT z1_6 (by decide : (87 : Int32).toInt = 87); have e7 := gk_neT z1_7 (by decide : (88 : Int32).toInt = 88); have e8 := gk_neT z1_8 (by decide : (89 : Int32).toInt = 89); have e9 := gk_neT z1_9 (by decide : (90 : Int32).toInt = 90); have e10 := gk_neT z1_10 (by decide : (91 : Int32).toInt = 91); omega) rfl ?_
                        refine gk_iconst (pc := 148) (3 : Int32) d_Da_answer_148 rfl ?_
                        refine gk_callS (pc := 149) (d := (d + 8)) (w' := gv_R) (as := [.int (3 : Int32)]) (n := 1) d_Da_answer_149 rfl rfl (Nat.le_of_ble_eq_true rfl) tw_1513 tw_236 tw_97 cw_Va_ofError hy_Va_ofError (Nat.le_of_ble_eq_true rfl) (p_Va_ofError (d + 6) (3 : Int32) h) fun x12 h12 => ?_
                        exact gk_aret (pc := 152) rfl d_Da_answer_152 rfl (Or.inl ⟨_, rfl⟩)
theorem p_Da_answer (d : Nat) (a0 : Int32) (a1 : Option Nat) (h : gk_H) : ∀ r h1, f_Da_answer a0 a1 h = some (r, h1) → gk_M (d + 9) y_Da_answer b_Da_answer 2 (some (.object "ValueAlgebra$Value")) [.int a0, va_rf a1] h (.inl (gv_R r)) h1 :=
  fun r h1 e => gk_M_of2 (by decide +kernel) (by simp [lv_args, gk_cat_rf, gk_catI, gk_catJ, gk_catD, gv_V, gv_I, gv_J, gv_D, gv_R]) (by simp [lg_sl, gk_cat_rf, gk_catI, gk_catJ, gk_catD, gv_V, gv_I, gv_J, gv_D, gv_R]) (w_Da_answer d a0 a1 h r h1 e)
theorem d_A_call_0 : decode b_A_call 0 = .ok (.iload_n 1, 1) := by decide +kernel
theorem d_A_call_1 : decode b_A_call 1 = .ok (.ifCond .lt 19, 3) := by decide +kernel
theorem d_A_call_4 : decode b_A_call 4 = .ok (.iload_n 1, 1) := by decide +kernel
theorem d_A_call_5 : decode b_A_call 5 = .ok (.getstatic 124, 3) := by decide +kernel
theorem d_A_call_8 : decode b_A_call 8 = .ok (.arraylength, 1) := by decide +kernel
theorem d_A_call_9 : decode b_A_call 9 = .ok (.if_icmp .ge 11, 3) := by decide +kernel
theorem d_A_call_12 : decode b_A_call 12 = .ok (.iload_n 1, 1) := by decide +kernel
theorem d_A_call_13 : decode b_A_call 13 = .ok (.getstatic 128, 3) := by decide +kernel
theorem d_A_call_16 : decode b_A_call 16 = .ok (.arraylength, 1) := by decide +kernel
theorem d_A_call_17 : decode b_A_call 17 = .ok (.if_icmp .lt 13, 3) := by decide +kernel
theorem d_A_call_20 : decode b_A_call 20 = .ok (.new 41, 3) := by decide +kernel
theorem d_A_call_23 : decode b_A_call 23 = .ok (.dup, 1) := by decide +kernel
theorem d_A_call_24 : decode b_A_call 24 = .ok (.ldc 131, 2) := by decide +kernel
theorem d_A_call_26 : decode b_A_call 26 = .ok (.invokespecial 45, 3) := by decide +kernel
theorem d_A_call_29 : decode b_A_call 29 = .ok (.athrow, 1) := by decide +kernel
theorem d_A_call_30 : decode b_A_call 30 = .ok (.iload_n 2, 1) := by decide +kernel
theorem d_A_call_31 : decode b_A_call 31 = .ok (.getstatic 124, 3) := by decide +kernel
theorem d_A_call_34 : decode b_A_call 34 = .ok (.iload_n 1, 1) := by decide +kernel
theorem d_A_call_35 : decode b_A_call 35 = .ok (.iaload, 1) := by decide +kernel
theorem d_A_call_36 : decode b_A_call 36 = .ok (.if_icmp .lt 12, 3) := by decide +kernel
theorem d_A_call_39 : decode b_A_call 39 = .ok (.iload_n 2, 1) := by decide +kernel
theorem d_A_call_40 : decode b_A_call 40 = .ok (.getstatic 128, 3) := by decide +kernel
theorem d_A_call_43 : decode b_A_call 43 = .ok (.iload_n 1, 1) := by decide +kernel
theorem d_A_call_44 : decode b_A_call 44 = .ok (.iaload, 1) := by decide +kernel
theorem d_A_call_45 : decode b_A_call 45 = .ok (.if_icmp .le 13, 3) := by decide +kernel
theorem d_A_call_48 : decode b_A_call 48 = .ok (.new 41, 3) := by decide +kernel
theorem d_A_call_51 : decode b_A_call 51 = .ok (.dup, 1) := by decide +kernel
theorem d_A_call_52 : decode b_A_call 52 = .ok (.ldc 133, 2) := by decide +kernel
theorem d_A_call_54 : decode b_A_call 54 = .ok (.invokespecial 45, 3) := by decide +kernel
theorem d_A_call_57 : decode b_A_call 57 = .ok (.athrow, 1) := by decide +kernel
theorem d_A_call_58 : decode b_A_call 58 = .ok (.iload_n 2, 1) := by decide +kernel
theorem d_A_call_59 : decode b_A_call 59 = .ok (.aload_n 0, 1) := by decide +kernel
theorem d_A_call_60 : decode b_A_call 60 = .ok (.getfield 29, 3) := by decide +kernel
theorem d_A_call_63 : decode b_A_call 63 = .ok (.if_icmp .le 13, 3) := by decide +kernel
theorem d_A_call_66 : decode b_A_call 66 = .ok (.new 41, 3) := by decide +kernel
theorem d_A_call_69 : decode b_A_call 69 = .ok (.dup, 1) := by decide +kernel
theorem d_A_call_70 : decode b_A_call 70 = .ok (.ldc 89, 2) := by decide +kernel
theorem d_A_call_72 : decode b_A_call 72 = .ok (.invokespecial 45, 3) := by decide +kernel
theorem d_A_call_75 : decode b_A_call 75 = .ok (.athrow, 1) := by decide +kernel
theorem d_A_call_76 : decode b_A_call 76 = .ok (.iload_n 2, 1) := by decide +kernel
theorem d_A_call_77 : decode b_A_call 77 = .ok (.ifCond .ne 22, 3) := by decide +kernel
theorem d_A_call_80 : decode b_A_call 80 = .ok (.aload_n 0, 1) := by decide +kernel
theorem d_A_call_81 : decode b_A_call 81 = .ok (.getfield 29, 3) := by decide +kernel
theorem d_A_call_84 : decode b_A_call 84 = .ok (.bipush 16, 2) := by decide +kernel
theorem d_A_call_86 : decode b_A_call 86 = .ok (.if_icmp .lt 13, 3) := by decide +kernel
theorem d_A_call_89 : decode b_A_call 89 = .ok (.new 52, 3) := by decide +kernel
theorem d_A_call_92 : decode b_A_call 92 = .ok (.dup, 1) := by decide +kernel
theorem d_A_call_93 : decode b_A_call 93 = .ok (.ldc 135, 2) := by decide +kernel
theorem d_A_call_95 : decode b_A_call 95 = .ok (.invokespecial 56, 3) := by decide +kernel
theorem d_A_call_98 : decode b_A_call 98 = .ok (.athrow, 1) := by decide +kernel
theorem d_A_call_99 : decode b_A_call 99 = .ok (.aload_n 0, 1) := by decide +kernel
theorem d_A_call_100 : decode b_A_call 100 = .ok (.getfield 25, 3) := by decide +kernel
theorem d_A_call_103 : decode b_A_call 103 = .ok (.aload_n 0, 1) := by decide +kernel
theorem d_A_call_104 : decode b_A_call 104 = .ok (.getfield 11, 3) := by decide +kernel
theorem d_A_call_107 : decode b_A_call 107 = .ok (.aload_n 0, 1) := by decide +kernel
theorem d_A_call_108 : decode b_A_call 108 = .ok (.getfield 29, 3) := by decide +kernel
theorem d_A_call_111 : decode b_A_call 111 = .ok (.iload_n 2, 1) := by decide +kernel
theorem d_A_call_112 : decode b_A_call 112 = .ok (.isub, 1) := by decide +kernel
theorem d_A_call_113 : decode b_A_call 113 = .ok (.iload_n 2, 1) := by decide +kernel
theorem d_A_call_114 : decode b_A_call 114 = .ok (.invokevirtual 112, 3) := by decide +kernel
theorem d_A_call_117 : decode b_A_call 117 = .ok (.iload_n 1, 1) := by decide +kernel
theorem d_A_call_118 : decode b_A_call 118 = .ok (.bipush 18, 2) := by decide +kernel
theorem d_A_call_120 : decode b_A_call 120 = .ok (.if_icmp .gt 15, 3) := by decide +kernel
theorem d_A_call_123 : decode b_A_call 123 = .ok (.iload_n 1, 1) := by decide +kernel
theorem d_A_call_124 : decode b_A_call 124 = .ok (.aload_n 0, 1) := by decide +kernel
theorem d_A_call_125 : decode b_A_call 125 = .ok (.getfield 25, 3) := by decide +kernel
theorem d_A_call_128 : decode b_A_call 128 = .ok (.invokestatic 139, 3) := by decide +kernel
theorem d_A_call_131 : decode b_A_call 131 = .ok (.astore_n 3, 1) := by decide +kernel
theorem d_A_call_132 : decode b_A_call 132 = .ok (.goto 84, 3) := by decide +kernel
theorem d_A_call_135 : decode b_A_call 135 = .ok (.iload_n 1, 1) := by decide +kernel
theorem d_A_call_136 : decode b_A_call 136 = .ok (.bipush 34, 2) := by decide +kernel
theorem d_A_call_138 : decode b_A_call 138 = .ok (.if_icmp .gt 15, 3) := by decide +kernel
theorem d_A_call_141 : decode b_A_call 141 = .ok (.iload_n 1, 1) := by decide +kernel
theorem d_A_call_142 : decode b_A_call 142 = .ok (.aload_n 0, 1) := by decide +kernel
theorem d_A_call_143 : decode b_A_call 143 = .ok (.getfield 25, 3) := by decide +kernel
theorem d_A_call_146 : decode b_A_call 146 = .ok (.invokestatic 142, 3) := by decide +kernel
theorem d_A_call_149 : decode b_A_call 149 = .ok (.astore_n 3, 1) := by decide +kernel
theorem d_A_call_150 : decode b_A_call 150 = .ok (.goto 66, 3) := by decide +kernel
theorem d_A_call_153 : decode b_A_call 153 = .ok (.iload_n 1, 1) := by decide +kernel
theorem d_A_call_154 : decode b_A_call 154 = .ok (.bipush 55, 2) := by decide +kernel
theorem d_A_call_156 : decode b_A_call 156 = .ok (.if_icmp .gt 15, 3) := by decide +kernel
theorem d_A_call_159 : decode b_A_call 159 = .ok (.iload_n 1, 1) := by decide +kernel
theorem d_A_call_160 : decode b_A_call 160 = .ok (.aload_n 0, 1) := by decide +kernel
theorem d_A_call_161 : decode b_A_call 161 = .ok (.getfield 25, 3) := by decide +kernel
theorem d_A_call_164 : decode b_A_call 164 = .ok (.invokestatic 145, 3) := by decide +kernel
theorem d_A_call_167 : decode b_A_call 167 = .ok (.astore_n 3, 1) := by decide +kernel
theorem d_A_call_168 : decode b_A_call 168 = .ok (.goto 48, 3) := by decide +kernel
theorem d_A_call_171 : decode b_A_call 171 = .ok (.iload_n 1, 1) := by decide +kernel
theorem d_A_call_172 : decode b_A_call 172 = .ok (.bipush 73, 2) := by decide +kernel
theorem d_A_call_174 : decode b_A_call 174 = .ok (.if_icmp .gt 15, 3) := by decide +kernel
theorem d_A_call_177 : decode b_A_call 177 = .ok (.iload_n 1, 1) := by decide +kernel
theorem d_A_call_178 : decode b_A_call 178 = .ok (.aload_n 0, 1) := by decide +kernel
theorem d_A_call_179 : decode b_A_call 179 = .ok (.getfield 25, 3) := by decide +kernel
theorem d_A_call_182 : decode b_A_call 182 = .ok (.invokestatic 148, 3) := by decide +kernel
theorem d_A_call_185 : decode b_A_call 185 = .ok (.astore_n 3, 1) := by decide +kernel
theorem d_A_call_186 : decode b_A_call 186 = .ok (.goto 30, 3) := by decide +kernel
theorem d_A_call_189 : decode b_A_call 189 = .ok (.iload_n 1, 1) := by decide +kernel
theorem d_A_call_190 : decode b_A_call 190 = .ok (.bipush 80, 2) := by decide +kernel
theorem d_A_call_192 : decode b_A_call 192 = .ok (.if_icmp .gt 15, 3) := by decide +kernel
theorem d_A_call_195 : decode b_A_call 195 = .ok (.iload_n 1, 1) := by decide +kernel
theorem d_A_call_196 : decode b_A_call 196 = .ok (.aload_n 0, 1) := by decide +kernel
theorem d_A_call_197 : decode b_A_call 197 = .ok (.getfield 25, 3) := by decide +kernel
theorem d_A_call_200 : decode b_A_call 200 = .ok (.invokestatic 151, 3) := by decide +kernel
theorem d_A_call_203 : decode b_A_call 203 = .ok (.astore_n 3, 1) := by decide +kernel
theorem d_A_call_204 : decode b_A_call 204 = .ok (.goto 12, 3) := by decide +kernel
theorem d_A_call_207 : decode b_A_call 207 = .ok (.iload_n 1, 1) := by decide +kernel
theorem d_A_call_208 : decode b_A_call 208 = .ok (.aload_n 0, 1) := by decide +kernel
theorem d_A_call_209 : decode b_A_call 209 = .ok (.getfield 25, 3) := by decide +kernel
theorem d_A_call_212 : decode b_A_call 212 = .ok (.invokestatic 152, 3) := by decide +kernel
theorem d_A_call_215 : decode b_A_call 215 = .ok (.astore_n 3, 1) := by decide +kernel
theorem d_A_call_216 : decode b_A_call 216 = .ok (.aload_n 0, 1) := by decide +kernel
theorem d_A_call_217 : decode b_A_call 217 = .ok (.iload_n 2, 1) := by decide +kernel
theorem d_A_call_218 : decode b_A_call 218 = .ok (.aload_n 0, 1) := by decide +kernel
theorem d_A_call_219 : decode b_A_call 219 = .ok (.getfield 25, 3) := by decide +kernel
theorem d_A_call_222 : decode b_A_call 222 = .ok (.aload_n 3, 1) := by decide +kernel
theorem d_A_call_223 : decode b_A_call 223 = .ok (.invokevirtual 120, 3) := by decide +kernel
theorem d_A_call_226 : decode b_A_call 226 = .ok (.invokevirtual 100, 3) := by decide +kernel
theorem d_A_call_229 : decode b_A_call 229 = .ok (.return_, 1) := by decide +kernel
theorem p_A_call_b20 (d : Nat)   (h : gk_H) : gk_P gx_V (d + 11) y_A_call b_A_call 4 none [] (f_A_call_b20   h) 20 [] [] h := by
  unfold f_A_call_b20
  exact gk_throw (pc := 20) (text := "there is no such function") (is := 131) rfl (by omega) (by decide +kernel) (by decide +kernel) tw_405 tw_104 (by decide +kernel) ex_IllegalArgumentException_45 eg_IllegalArgumentException_45 d_A_call_20 d_A_call_23 d_A_call_24 d_A_call_26 d_A_call_29 (Nat.le_of_ble_eq_true rfl)
theorem p_A_call_b48 (d : Nat)   (h : gk_H) : gk_P gx_V (d + 11) y_A_call b_A_call 4 none [] (f_A_call_b48   h) 48 [] [] h := by
  unfold f_A_call_b48
  exact gk_throw (pc := 48) (text := "the function does not take so many arguments") (is := 133) rfl (by omega) (by decide +kernel) (by decide +kernel) tw_405 tw_104 (by decide +kernel) ex_IllegalArgumentException_45 eg_IllegalArgumentException_45 d_A_call_48 d_A_call_51 d_A_call_52 d_A_call_54 d_A_call_57 (Nat.le_of_ble_eq_true rfl)
theorem p_A_call_b216 (d : Nat)  (v0 : Option Nat) (v2 : Int32) (v3 : Option Nat) (h : gk_H) : gk_P gx_V (d + 11) y_A_call b_A_call 4 none [] (f_A_call_b216  v0 v2 v3 h) 216 [(0, va_rf v0), (2, .int v2), (3, va_rf v3)] [] h := by
  unfold f_A_call_b216
  refine gk_aload_n (pc := 216) 0 d_A_call_216 rfl ?_
  refine gk_iload_n (pc := 217) 1 d_A_call_217 rfl ?_
  refine gk_aload_n (pc := 218) 0 d_A_call_218 rfl ?_
  refine gk_getR (pc := 219) 5 3 d_A_call_219 rfl (Nat.le_of_ble_eq_true rfl) tw_294 fun x1 => ?_
  refine gk_aload_n (pc := 222) 2 d_A_call_222 rfl ?_
  refine gk_callV (pc := 223) (d := (d + 10)) (w' := gv_R) (as := [va_rf v3]) (n := 1) 4 d_A_call_223 rfl rfl rfl rfl (by simp [gk_cat_rf, gk_catI, gk_catJ, gk_catD, gv_V, gv_I, gv_J, gv_D, gv_R]) tw_1006 tw_1007 tw_1008 tw_96 cw_Ar_faultOr hy_Ar_faultOr (Nat.le_of_ble_eq_true rfl) (p_Ar_faultOr (d + 7) x1 v3 h) fun x2 h1 => ?_
  refine gk_callVXV (pc := 226) (d := (d + 10)) (as := [.int v2, va_rf x2]) (n := 2) 5 d_A_call_226 rfl rfl rfl rfl (Nat.le_of_ble_eq_true rfl) tw_756 tw_758 tw_6 tw_91 cw_A_replaceUpper hy_A_replaceUpper (Nat.le_of_ble_eq_true rfl) (p_A_replaceUpper (d + 1) v0 v2 x2 h1) (fun _ => rfl) fun _ h2 => ?_
  exact gk_vret (pc := 229) rfl d_A_call_229 rfl
theorem p_A_call_b99 (d : Nat)  (v0 : Option Nat) (v1 : Int32) (v2 : Int32) (h : gk_H) : gk_P gx_V (d + 11) y_A_call b_A_call 4 none [] (f_A_call_b99  v0 v1 v2 h) 99 [(0, va_rf v0), (1, .int v1), (2, .int v2)] [] h := by
  unfold f_A_call_b99
  refine gk_aload_n (pc := 99) 0 d_A_call_99 rfl ?_
  refine gk_getR (pc := 100) 5 3 d_A_call_100 rfl (Nat.le_of_ble_eq_true rfl) tw_294 fun x1 => ?_
  refine gk_aload_n (pc := 103) 0 d_A_call_103 rfl ?_
  refine gk_getR (pc := 104) 5 0 d_A_call_104 rfl (Nat.le_of_ble_eq_true rfl) tw_291 fun x2 => ?_
  refine gk_aload_n (pc := 107) 0 d_A_call_107 rfl ?_
  refine gk_getI (pc := 108) 5 1 d_A_call_108 rfl (Nat.le_of_ble_eq_true rfl) tw_292 fun x3 => ?_
  refine gk_iload_n (pc := 111) 2 d_A_call_111 rfl ?_
  refine gk_isub (pc := 112) d_A_call_112 ?_
  refine gk_iload_n (pc := 113) 2 d_A_call_113 rfl ?_
  refine gk_callV (pc := 114) (d := (d + 10)) (w' := gv_V) (as := [va_rf x2, .int (x3 - v2), .int v2]) (n := 3) 4 d_A_call_114 rfl rfl rfl rfl (Nat.le_of_ble_eq_true rfl) tw_771 tw_772 tw_773 tw_96 cw_Ar_take hy_Ar_take (Nat.le_of_ble_eq_true rfl) (p_Ar_take (d + 9) x1 x2 (x3 - v2) v2 h) fun _ h1 => ?_
  refine gk_iload_n (pc := 117) 1 d_A_call_117 rfl ?_
  refine gk_bipush (pc := 118) (18 : Int32) d_A_call_118 rfl ?_
  refine gk_icmp_gt (pc := 120) 135 d_A_call_120 rfl (fun _ => ?_) (fun _ => ?_)
  · refine gk_iload_n (pc := 135) 1 d_A_call_135 rfl ?_
    refine gk_bipush (pc := 136) (34 : Int32) d_A_call_136 rfl ?_
    refine gk_icmp_gt (pc := 138) 153 d_A_call_138 rfl (fun _ => ?_) (fun _ => ?_)
    · refine gk_iload_n (pc := 153) 1 d_A_call_153 rfl ?_
      refine gk_bipush (pc := 154) (55 : Int32) d_A_call_154 rfl ?_
      refine gk_icmp_gt (pc := 156) 171 d_A_call_156 rfl (fun _ => ?_) (fun _ => ?_)
      · refine gk_iload_n (pc := 171) 1 d_A_call_171 rfl ?_
        refine gk_bipush (pc := 172) (73 : Int32) d_A_call_172 rfl ?_
        refine gk_icmp_gt (pc := 174) 189 d_A_call_174 rfl (fun _ => ?_) (fun _ => ?_)
        · refine gk_iload_n (pc := 189) 1 d_A_call_189 rfl ?_
          refine gk_bipush (pc := 190) (80 : Int32) d_A_call_190 rfl ?_
          refine gk_icmp_gt (pc := 192) 207 d_A_call_192 rfl (fun _ => ?_) (fun _ => ?_)
          · refine gk_iload_n (pc := 207) 1 d_A_call_207 rfl ?_
            refine gk_aload_n (pc := 208) 0 d_A_call_208 rfl ?_
            refine gk_getR (pc := 209) 5 3 d_A_call_209 rfl (Nat.le_of_ble_eq_true rfl) tw_294 fun x4 => ?_
            refine gk_callS (pc := 212) (d := (d + 10)) (w' := gv_R) (as := [.int v1, va_rf x4]) (n := 2) d_A_call_212 rfl rfl (Nat.le_of_ble_eq_true rfl) tw_1501 tw_1502 tw_124 cw_Da_answer hy_Da_answer (Nat.le_of_ble_eq_true rfl) (p_Da_answer (d + 1) v1 x4 h1) fun x5 h2 => ?_
            refine gk_astore_n (pc := 215) (L' := [(3, va_rf x5), (0, va_rf v0), (1, .int v1), (2, .int v2)]) d_A_call_215 (Nat.le_of_ble_eq_true rfl) rfl ?_
            refine gk_weak [1, 3, 0] (L' := [(0, va_rf v0), (2, .int v2), (3, va_rf x5)]) rfl ?_
            exact p_A_call_b216 d v0 v2 x5 h2
          · refine gk_iload_n (pc := 195) 1 d_A_call_195 rfl ?_
            refine gk_aload_n (pc := 196) 0 d_A_call_196 rfl ?_
            refine gk_getR (pc := 197) 5 3 d_A_call_197 rfl (Nat.le_of_ble_eq_true rfl) tw_294 fun x6 => ?_
            refine gk_callS (pc := 200) (d := (d + 10)) (w' := gv_R) (as := [.int v1, va_rf x6]) (n := 2) d_A_call_200 rfl rfl (Nat.le_of_ble_eq_true rfl) tw_1442 tw_1443 tw_123 cw_Lo_answer hy_Lo_answer (Nat.le_of_ble_eq_true rfl) (p_Lo_answer d v1 x6 h1) fun x7 h3 => ?_
            refine gk_astore_n (pc := 203) (L' := [(3, va_rf x7), (0, va_rf v0), (1, .int v1), (2, .int v2)]) d_A_call_203 (Nat.le_of_ble_eq_true rfl) rfl ?_
            refine gk_goto (pc := 204) 216 d_A_call_204 rfl ?_
            refine gk_weak [1, 3, 0] (L' := [(0, va_rf v0), (2, .int v2), (3, va_rf x7)]) rfl ?_
            exact p_A_call_b216 d v0 v2 x7 h3
        · refine gk_iload_n (pc := 177) 1 d_A_call_177 rfl ?_
          refine gk_aload_n (pc := 178) 0 d_A_call_178 rfl ?_
          refine gk_getR (pc := 179) 5 3 d_A_call_179 rfl (Nat.le_of_ble_eq_true rfl) tw_294 fun x8 => ?_
          refine gk_callS (pc := 182) (d := (d + 10)) (w' := gv_R) (as := [.int v1, va_rf x8]) (n := 2) d_A_call_182 rfl rfl (Nat.le_of_ble_eq_true rfl) tw_1344 tw_1345 tw_122 cw_Wo_answer hy_Wo_answer (Nat.le_of_ble_eq_true rfl) (p_Wo_answer d v1 x8 h1) fun x9 h4 => ?_
          refine gk_astore_n (pc := 185) (L' := [(3, va_rf x9), (0, va_rf v0), (1, .int v1), (2, .int v2)]) d_A_call_185 (Nat.le_of_ble_eq_true rfl) rfl ?_
          refine gk_goto (pc := 186) 216 d_A_call_186 rfl ?_
          refine gk_weak [1, 3, 0] (L' := [(0, va_rf v0), (2, .int v2), (3, va_rf x9)]) rfl ?_
          exact p_A_call_b216 d v0 v2 x9 h4
      · refine gk_iload_n (pc := 159) 1 d_A_call_159 rfl ?_
        refine gk_aload_n (pc := 160) 0 d_A_call_160 rfl ?_
        refine gk_getR (pc := 161) 5 3 d_A_call_161 rfl (Nat.le_of_ble_eq_true rfl) tw_294 fun x10 => ?_
        refine gk_callS (pc := 164) (d := (d + 10)) (w' := gv_R) (as := [.int v1, va_rf x10]) (n := 2) d_A_call_164 rfl rfl (Nat.le_of_ble_eq_true rfl) tw_1297 tw_1298 tw_121 cw_Ch_answer hy_Ch_answer (Nat.le_of_ble_eq_true rfl) (p_Ch_answer (d + 1) v1 x10 h1) fun x11 h5 => ?_
        refine gk_astore_n (pc := 167) (L' := [(3, va_rf x11), (0, va_rf v0), (1, .int v1), (2, .int v2)]) d_A_call_167 (Nat.le_of_ble_eq_true rfl) rfl ?_
        refine gk_goto (pc := 168) 216 d_A_call_168 rfl ?_
        refine gk_weak [1, 3, 0] (L' := [(0, va_rf v0), (2, .int v2), (3, va_rf x11)]) rfl ?_
        exact p_A_call_b216 d v0 v2 x11 h5
    · refine gk_iload_n (pc := 141) 1 d_A_call_141 rfl ?_
      refine gk_aload_n (pc := 142) 0 d_A_call_142 rfl ?_
      refine gk_getR (pc := 143) 5 3 d_A_call_143 rfl (Nat.le_of_ble_eq_true rfl) tw_294 fun x12 => ?_
      refine gk_callS (pc := 146) (d := (d + 10)) (w' := gv_R) (as := [.int v1, va_rf x12]) (n := 2) d_A_call_146 rfl rfl (Nat.le_of_ble_eq_true rfl) tw_1229 tw_1230 tw_117 cw_Am_answer hy_Am_answer (Nat.le_of_ble_eq_true rfl) (p_Am_answer d v1 x12 h1) fun x13 h6 => ?_
      refine gk_astore_n (pc := 149) (L' := [(3, va_rf x13), (0, va_rf v0), (1, .int v1), (2, .int v2)]) d_A_call_149 (Nat.le_of_ble_eq_true rfl) rfl ?_
      refine gk_goto (pc := 150) 216 d_A_call_150 rfl ?_
      refine gk_weak [1, 3, 0] (L' := [(0, va_rf v0), (2, .int v2), (3, va_rf x13)]) rfl ?_
      exact p_A_call_b216 d v0 v2 x13 h6
  · refine gk_iload_n (pc := 123) 1 d_A_call_123 rfl ?_
    refine gk_aload_n (pc := 124) 0 d_A_call_124 rfl ?_
    refine gk_getR (pc := 125) 5 3 d_A_call_125 rfl (Nat.le_of_ble_eq_true rfl) tw_294 fun x14 => ?_
    refine gk_callS (pc := 128) (d := (d + 10)) (w' := gv_R) (as := [.int v1, va_rf x14]) (n := 2) d_A_call_128 rfl rfl (Nat.le_of_ble_eq_true rfl) tw_1023 tw_1024 tw_119 cw_Su_answer hy_Su_answer (Nat.le_of_ble_eq_true rfl) (p_Su_answer (d + 1) v1 x14 h1) fun x15 h7 => ?_
    refine gk_astore_n (pc := 131) (L' := [(3, va_rf x15), (0, va_rf v0), (1, .int v1), (2, .int v2)]) d_A_call_131 (Nat.le_of_ble_eq_true rfl) rfl ?_
    refine gk_goto (pc := 132) 216 d_A_call_132 rfl ?_
    refine gk_weak [1, 3, 0] (L' := [(0, va_rf v0), (2, .int v2), (3, va_rf x15)]) rfl ?_
    exact p_A_call_b216 d v0 v2 x15 h7
theorem w_A_call (d : Nat) (a0 : Option Nat) (a1 : Int32) (a2 : Int32) (h : gk_H) : gk_P gx_V (d + 11) y_A_call b_A_call 4 none [] (f_A_call a0 a1 a2 h) 0 [(0, va_rf a0), (1, .int a1), (2, .int a2)] [] h := by
  unfold f_A_call
  refine gk_iload_n (pc := 0) 1 d_A_call_0 rfl ?_
  refine gk_if_lt (pc := 1) 20 d_A_call_1 rfl (fun _ => ?_) (fun _ => ?_)
  · refine gk_weak [] (L' := []) rfl ?_
    exact p_A_call_b20 d h
  · refine gk_iload_n (pc := 4) 1 d_A_call_4 rfl ?_
    refine gk_gsR (pc := 5) 2 d_A_call_5 rfl tw_1017 fun x1 => ?_
    refine gk_alen (pc := 8) d_A_call_8 fun x2 => ?_
    refine gk_icmp_ge (pc := 9) 20 d_A_call_9 rfl (fun _ => ?_) (fun _ => ?_)
    · refine gk_weak [] (L' := []) rfl ?_
      exact p_A_call_b20 d h
    · refine gk_iload_n (pc := 12) 1 d_A_call_12 rfl ?_
      refine gk_gsR (pc := 13) 3 d_A_call_13 rfl tw_1019 fun x3 => ?_
      refine gk_alen (pc := 16) d_A_call_16 fun x4 => ?_
      refine gk_icmp_lt (pc := 17) 30 d_A_call_17 rfl (fun _ => ?_) (fun _ => ?_)
      · refine gk_iload_n (pc := 30) 2 d_A_call_30 rfl ?_
        refine gk_gsR (pc := 31) 2 d_A_call_31 rfl tw_1017 fun x5 => ?_
        refine gk_iload_n (pc := 34) 1 d_A_call_34 rfl ?_
        refine gk_iald (pc := 35) d_A_call_35 fun x6 => ?_
        refine gk_icmp_lt (pc := 36) 48 d_A_call_36 rfl (fun _ => ?_) (fun _ => ?_)
        · refine gk_weak [] (L' := []) rfl ?_
          exact p_A_call_b48 d h
        · refine gk_iload_n (pc := 39) 2 d_A_call_39 rfl ?_
          refine gk_gsR (pc := 40) 3 d_A_call_40 rfl tw_1019 fun x7 => ?_
          refine gk_iload_n (pc := 43) 1 d_A_call_43 rfl ?_
          refine gk_iald (pc := 44) d_A_call_44 fun x8 => ?_
          refine gk_icmp_le (pc := 45) 58 d_A_call_45 rfl (fun _ => ?_) (fun _ => ?_)
          · refine gk_iload_n (pc := 58) 2 d_A_call_58 rfl ?_
            refine gk_aload_n (pc := 59) 0 d_A_call_59 rfl ?_
            refine gk_getI (pc := 60) 5 1 d_A_call_60 rfl (Nat.le_of_ble_eq_true rfl) tw_292 fun x9 => ?_
            refine gk_icmp_le (pc := 63) 76 d_A_call_63 rfl (fun _ => ?_) (fun _ => ?_)
            · refine gk_iload_n (pc := 76) 2 d_A_call_76 rfl ?_
              refine gk_if_ne (pc := 77) 99 d_A_call_77 rfl (fun _ => ?_) (fun _ => ?_)
              · refine gk_aload_n (pc := 80) 0 d_A_call_80 rfl ?_
                refine gk_getI (pc := 81) 5 1 d_A_call_81 rfl (Nat.le_of_ble_eq_true rfl) tw_292 fun x10 => ?_
                refine gk_bipush (pc := 84) (16 : Int32) d_A_call_84 rfl ?_
                refine gk_icmp_lt (pc := 86) 99 d_A_call_86 rfl (fun _ => ?_) (fun _ => ?_)
                · exact p_A_call_b99 d a0 a1 a2 h
                · exact gk_throw (pc := 89) (text := "there is no room on the stack") (is := 135) rfl (by omega) (by decide +kernel) (by decide +kernel) tw_328 tw_103 (by decide +kernel) ex_IllegalStateException_56 eg_IllegalStateException_56 d_A_call_89 d_A_call_92 d_A_call_93 d_A_call_95 d_A_call_98 (Nat.le_of_ble_eq_true rfl)
              · exact p_A_call_b99 d a0 a1 a2 h
            · exact gk_throw (pc := 66) (text := "there are not so many values") (is := 89) rfl (by omega) (by decide +kernel) (by decide +kernel) tw_405 tw_104 (by decide +kernel) ex_IllegalArgumentException_45 eg_IllegalArgumentException_45 d_A_call_66 d_A_call_69 d_A_call_70 d_A_call_72 d_A_call_75 (Nat.le_of_ble_eq_true rfl)
          · refine gk_weak [] (L' := []) rfl ?_
            exact p_A_call_b48 d h
      · refine gk_weak [] (L' := []) rfl ?_
        exact p_A_call_b20 d h
theorem p_A_call (d : Nat) (a0 : Option Nat) (a1 : Int32) (a2 : Int32) (h : gk_H) : ∀ r h1, f_A_call a0 a1 a2 h = some (r, h1) → gk_M (d + 11) y_A_call b_A_call 4 none [va_rf a0, .int a1, .int a2] h (gx_V r) h1 :=
  fun r h1 e => gk_M_of2 (by decide +kernel) (by simp [lv_args, gk_cat_rf, gk_catI, gk_catJ, gk_catD, gv_V, gv_I, gv_J, gv_D, gv_R]) (by simp [lg_sl, gk_cat_rf, gk_catI, gk_catJ, gk_catD, gv_V, gv_I, gv_J, gv_D, gv_R]) (w_A_call d a0 a1 a2 h r h1 e)
theorem d_A_drop_0 : decode b_A_drop 0 = .ok (.aload_n 0, 1) := by decide +kernel
theorem d_A_drop_1 : decode b_A_drop 1 = .ok (.getfield 29, 3) := by decide +kernel
theorem d_A_drop_4 : decode b_A_drop 4 = .ok (.ifCond .ne 13, 3) := by decide +kernel
theorem d_A_drop_7 : decode b_A_drop 7 = .ok (.new 52, 3) := by decide +kernel
theorem d_A_drop_10 : decode b_A_drop 10 = .ok (.dup, 1) := by decide +kernel
theorem d_A_drop_11 : decode b_A_drop 11 = .ok (.ldc 155, 2) := by decide +kernel
theorem d_A_drop_13 : decode b_A_drop 13 = .ok (.invokespecial 56, 3) := by decide +kernel
theorem d_A_drop_16 : decode b_A_drop 16 = .ok (.athrow, 1) := by decide +kernel
theorem d_A_drop_17 : decode b_A_drop 17 = .ok (.aload_n 0, 1) := by decide +kernel
theorem d_A_drop_18 : decode b_A_drop 18 = .ok (.dup, 1) := by decide +kernel
theorem d_A_drop_19 : decode b_A_drop 19 = .ok (.getfield 29, 3) := by decide +kernel
theorem d_A_drop_22 : decode b_A_drop 22 = .ok (.iconst 1, 1) := by decide +kernel
theorem d_A_drop_23 : decode b_A_drop 23 = .ok (.isub, 1) := by decide +kernel
theorem d_A_drop_24 : decode b_A_drop 24 = .ok (.putfield 29, 3) := by decide +kernel
theorem d_A_drop_27 : decode b_A_drop 27 = .ok (.aload_n 0, 1) := by decide +kernel
theorem d_A_drop_28 : decode b_A_drop 28 = .ok (.getfield 11, 3) := by decide +kernel
theorem d_A_drop_31 : decode b_A_drop 31 = .ok (.aload_n 0, 1) := by decide +kernel
theorem d_A_drop_32 : decode b_A_drop 32 = .ok (.getfield 29, 3) := by decide +kernel
theorem d_A_drop_35 : decode b_A_drop 35 = .ok (.aconst_null, 1) := by decide +kernel
theorem d_A_drop_36 : decode b_A_drop 36 = .ok (.aastore, 1) := by decide +kernel
theorem d_A_drop_37 : decode b_A_drop 37 = .ok (.return_, 1) := by decide +kernel
theorem w_A_drop (d : Nat) (a0 : Option Nat) (h : gk_H) : gk_P gx_V (d + 8) y_A_drop b_A_drop 1 none [] (f_A_drop a0 h) 0 [(0, va_rf a0)] [] h := by
  unfold f_A_drop
  refine gk_aload_n (pc := 0) 0 d_A_drop_0 rfl ?_
  refine gk_getI (pc := 1) 5 1 d_A_drop_1 rfl (Nat.le_of_ble_eq_true rfl) tw_292 fun x1 => ?_
  refine gk_if_ne (pc := 4) 17 d_A_drop_4 rfl (fun _ => ?_) (fun _ => ?_)
  · exact gk_throw (pc := 7) (text := "there is no value") (is := 155) rfl (by omega) (by decide +kernel) (by decide +kernel) tw_328 tw_103 (by decide +kernel) ex_IllegalStateException_56 eg_IllegalStateException_56 d_A_drop_7 d_A_drop_10 d_A_drop_11 d_A_drop_13 d_A_drop_16 (Nat.le_of_ble_eq_true rfl)
  · refine gk_aload_n (pc := 17) 0 d_A_drop_17 rfl ?_
    refine gk_dup (pc := 18) d_A_drop_18 (gk_cat_rf _) ?_
    refine gk_getI (pc := 19) 5 1 d_A_drop_19 rfl (Nat.le_of_ble_eq_true rfl) tw_292 fun x2 => ?_
    refine gk_iconst (pc := 22) (1 : Int32) d_A_drop_22 rfl ?_
    refine gk_isub (pc := 23) d_A_drop_23 ?_
    refine gk_putfield (pc := 24) 5 1 d_A_drop_24 rfl (Nat.le_of_ble_eq_true rfl) tw_292 (Or.inl rfl) fun h1 => ?_
    refine gk_aload_n (pc := 27) 0 d_A_drop_27 rfl ?_
    refine gk_getR (pc := 28) 5 0 d_A_drop_28 rfl (Nat.le_of_ble_eq_true rfl) tw_291 fun x3 => ?_
    refine gk_aload_n (pc := 31) 0 d_A_drop_31 rfl ?_
    refine gk_getI (pc := 32) 5 1 d_A_drop_32 rfl (Nat.le_of_ble_eq_true rfl) tw_292 fun x4 => ?_
    refine gk_anull (pc := 35) d_A_drop_35 ?_
    refine gk_aast (pc := 36) d_A_drop_36 fun h2 => ?_
    exact gk_vret (pc := 37) rfl d_A_drop_37 rfl
theorem p_A_drop (d : Nat) (a0 : Option Nat) (h : gk_H) : ∀ r h1, f_A_drop a0 h = some (r, h1) → gk_M (d + 8) y_A_drop b_A_drop 1 none [va_rf a0] h (gx_V r) h1 :=
  fun r h1 e => gk_M_of2 (by decide +kernel) (by simp [lv_args, gk_cat_rf, gk_catI, gk_catJ, gk_catD, gv_V, gv_I, gv_J, gv_D, gv_R]) (by simp [lg_sl, gk_cat_rf, gk_catI, gk_catJ, gk_catD, gv_V, gv_I, gv_J, gv_D, gv_R]) (w_A_drop d a0 h r h1 e)
theorem d_A_atDepth_0 : decode b_A_atDepth 0 = .ok (.iload_n 1, 1) := by decide +kernel
theorem d_A_atDepth_1 : decode b_A_atDepth 1 = .ok (.ifCond .lt 11, 3) := by decide +kernel
theorem d_A_atDepth_4 : decode b_A_atDepth 4 = .ok (.iload_n 1, 1) := by decide +kernel
theorem d_A_atDepth_5 : decode b_A_atDepth 5 = .ok (.aload_n 0, 1) := by decide +kernel
theorem d_A_atDepth_6 : decode b_A_atDepth 6 = .ok (.getfield 29, 3) := by decide +kernel
theorem d_A_atDepth_9 : decode b_A_atDepth 9 = .ok (.if_icmp .lt 13, 3) := by decide +kernel
theorem d_A_atDepth_12 : decode b_A_atDepth 12 = .ok (.new 192, 3) := by decide +kernel
theorem d_A_atDepth_15 : decode b_A_atDepth 15 = .ok (.dup, 1) := by decide +kernel
theorem d_A_atDepth_16 : decode b_A_atDepth 16 = .ok (.ldc 194, 2) := by decide +kernel
theorem d_A_atDepth_18 : decode b_A_atDepth 18 = .ok (.invokespecial 196, 3) := by decide +kernel
theorem d_A_atDepth_21 : decode b_A_atDepth 21 = .ok (.athrow, 1) := by decide +kernel
theorem d_A_atDepth_22 : decode b_A_atDepth 22 = .ok (.aload_n 0, 1) := by decide +kernel
theorem d_A_atDepth_23 : decode b_A_atDepth 23 = .ok (.getfield 11, 3) := by decide +kernel
theorem d_A_atDepth_26 : decode b_A_atDepth 26 = .ok (.aload_n 0, 1) := by decide +kernel
theorem d_A_atDepth_27 : decode b_A_atDepth 27 = .ok (.getfield 29, 3) := by decide +kernel
theorem d_A_atDepth_30 : decode b_A_atDepth 30 = .ok (.iconst 1, 1) := by decide +kernel
theorem d_A_atDepth_31 : decode b_A_atDepth 31 = .ok (.isub, 1) := by decide +kernel
theorem d_A_atDepth_32 : decode b_A_atDepth 32 = .ok (.iload_n 1, 1) := by decide +kernel
theorem d_A_atDepth_33 : decode b_A_atDepth 33 = .ok (.isub, 1) := by decide +kernel
theorem d_A_atDepth_34 : decode b_A_atDepth 34 = .ok (.aaload, 1) := by decide +kernel
theorem d_A_atDepth_35 : decode b_A_atDepth 35 = .ok (.areturn, 1) := by decide +kernel
theorem p_A_atDepth_b12 (d : Nat)   (h : gk_H) : gk_P gx_R (d + 8) y_A_atDepth b_A_atDepth 2 (some (.object "ValueAlgebra$Value")) [] (f_A_atDepth_b12   h) 12 [] [] h := by
  unfold f_A_atDepth_b12
  exact gk_throw (pc := 12) (text := "there is no value so far below") (is := 194) rfl (by omega) (by decide +kernel) (by decide +kernel) tw_1587 tw_112 (by decide +kernel) ex_IndexOutOfBoundsException_196 eg_IndexOutOfBoundsException_196 d_A_atDepth_12 d_A_atDepth_15 d_A_atDepth_16 d_A_atDepth_18 d_A_atDepth_21 (Nat.le_of_ble_eq_true rfl)
theorem w_A_atDepth (d : Nat) (a0 : Option Nat) (a1 : Int32) (h : gk_H) : gk_P gx_R (d + 8) y_A_atDepth b_A_atDepth 2 (some (.object "ValueAlgebra$Value")) [] (f_A_atDepth a0 a1 h) 0 [(0, va_rf a0), (1, .int a1)] [] h := by
  unfold f_A_atDepth
  refine gk_iload_n (pc := 0) 1 d_A_atDepth_0 rfl ?_
  refine gk_if_lt (pc := 1) 12 d_A_atDepth_1 rfl (fun _ => ?_) (fun _ => ?_)
  · refine gk_weak [] (L' := []) rfl ?_
    exact p_A_atDepth_b12 d h
  · refine gk_iload_n (pc := 4) 1 d_A_atDepth_4 rfl ?_
    refine gk_aload_n (pc := 5) 0 d_A_atDepth_5 rfl ?_
    refine gk_getI (pc := 6) 5 1 d_A_atDepth_6 rfl (Nat.le_of_ble_eq_true rfl) tw_292 fun x1 => ?_
    refine gk_icmp_lt (pc := 9) 22 d_A_atDepth_9 rfl (fun _ => ?_) (fun _ => ?_)
    · refine gk_aload_n (pc := 22) 0 d_A_atDepth_22 rfl ?_
      refine gk_getR (pc := 23) 5 0 d_A_atDepth_23 rfl (Nat.le_of_ble_eq_true rfl) tw_291 fun x2 => ?_
      refine gk_aload_n (pc := 26) 0 d_A_atDepth_26 rfl ?_
      refine gk_getI (pc := 27) 5 1 d_A_atDepth_27 rfl (Nat.le_of_ble_eq_true rfl) tw_292 fun x3 => ?_
      refine gk_iconst (pc := 30) (1 : Int32) d_A_atDepth_30 rfl ?_
      refine gk_isub (pc := 31) d_A_atDepth_31 ?_
      refine gk_iload_n (pc := 32) 1 d_A_atDepth_32 rfl ?_
      refine gk_isub (pc := 33) d_A_atDepth_33 ?_
      refine gk_aald (pc := 34) d_A_atDepth_34 fun x4 => ?_
      exact gk_aret (pc := 35) rfl d_A_atDepth_35 rfl (Or.inl ⟨_, rfl⟩)
    · refine gk_weak [] (L' := []) rfl ?_
      exact p_A_atDepth_b12 d h
theorem p_A_atDepth (d : Nat) (a0 : Option Nat) (a1 : Int32) (h : gk_H) : ∀ r h1, f_A_atDepth a0 a1 h = some (r, h1) → gk_M (d + 8) y_A_atDepth b_A_atDepth 2 (some (.object "ValueAlgebra$Value")) [va_rf a0, .int a1] h (gx_R r) h1 :=
  fun r h1 e => gk_M_of2 (by decide +kernel) (by simp [lv_args, gk_cat_rf, gk_catI, gk_catJ, gk_catD, gv_V, gv_I, gv_J, gv_D, gv_R]) (by simp [lg_sl, gk_cat_rf, gk_catI, gk_catJ, gk_catD, gv_V, gv_I, gv_J, gv_D, gv_R]) (w_A_atDepth d a0 a1 h r h1 e)
theorem d_A_again_0 : decode b_A_again 0 = .ok (.aload_n 0, 1) := by decide +kernel
theorem d_A_again_1 : decode b_A_again 1 = .ok (.aload_n 0, 1) := by decide +kernel
theorem d_A_again_2 : decode b_A_again 2 = .ok (.iload_n 1, 1) := by decide +kernel
theorem d_A_again_3 : decode b_A_again 3 = .ok (.invokevirtual 157, 3) := by decide +kernel
theorem d_A_again_6 : decode b_A_again 6 = .ok (.invokevirtual 37, 3) := by decide +kernel
theorem d_A_again_9 : decode b_A_again 9 = .ok (.return_, 1) := by decide +kernel
theorem w_A_again (d : Nat) (a0 : Option Nat) (a1 : Int32) (h : gk_H) : gk_P gx_V (d + 9) y_A_again b_A_again 2 none [] (f_A_again a0 a1 h) 0 [(0, va_rf a0), (1, .int a1)] [] h := by
  unfold f_A_again
  refine gk_aload_n (pc := 0) 0 d_A_again_0 rfl ?_
  refine gk_aload_n (pc := 1) 0 d_A_again_1 rfl ?_
  refine gk_iload_n (pc := 2) 1 d_A_again_2 rfl ?_
  refine gk_callVXR (pc := 3) (d := (d + 8)) (as := [.int a1]) (n := 1) 5 d_A_again_3 rfl rfl rfl rfl (by simp [gk_cat_rf, gk_catI, gk_catJ, gk_catD, gv_V, gv_I, gv_J, gv_D, gv_R]) tw_1583 tw_1585 tw_12 tw_91 cw_A_atDepth hy_A_atDepth (Nat.le_of_ble_eq_true rfl) (p_A_atDepth d a0 a1 h) (fun _ => rfl) fun x1 h1 => ?_
  refine gk_callVXV (pc := 6) (d := (d + 8)) (as := [va_rf x1]) (n := 1) 5 d_A_again_6 rfl rfl rfl rfl (Nat.le_of_ble_eq_true rfl) tw_324 tw_326 tw_4 tw_91 cw_A_push hy_A_push (Nat.le_of_ble_eq_true rfl) (p_A_push d a0 x1 h1) (fun _ => rfl) fun _ h2 => ?_
  exact gk_vret (pc := 9) rfl d_A_again_9 rfl
theorem p_A_again (d : Nat) (a0 : Option Nat) (a1 : Int32) (h : gk_H) : ∀ r h1, f_A_again a0 a1 h = some (r, h1) → gk_M (d + 9) y_A_again b_A_again 2 none [va_rf a0, .int a1] h (gx_V r) h1 :=
  fun r h1 e => gk_M_of2 (by decide +kernel) (by simp [lv_args, gk_cat_rf, gk_catI, gk_catJ, gk_catD, gv_V, gv_I, gv_J, gv_D, gv_R]) (by simp [lg_sl, gk_cat_rf, gk_catI, gk_catJ, gk_catD, gv_V, gv_I, gv_J, gv_D, gv_R]) (w_A_again d a0 a1 h r h1 e)
theorem d_A_about_0 : decode b_A_about 0 = .ok (.aload_n 0, 1) := by decide +kernel
theorem d_A_about_1 : decode b_A_about 1 = .ok (.iload_n 1, 1) := by decide +kernel
theorem d_A_about_2 : decode b_A_about 2 = .ok (.invokevirtual 157, 3) := by decide +kernel
theorem d_A_about_5 : decode b_A_about 5 = .ok (.astore_n 3, 1) := by decide +kernel
theorem d_A_about_6 : decode b_A_about 6 = .ok (.iload_n 2, 1) := by decide +kernel
theorem d_A_about_7 : decode b_A_about 7 = .ok (.tableswitch 40 0 2 #[25, 30, 35], 25) := by decide +kernel
theorem d_A_about_32 : decode b_A_about 32 = .ok (.aload_n 3, 1) := by decide +kernel
theorem d_A_about_33 : decode b_A_about 33 = .ok (.getfield 91, 3) := by decide +kernel
theorem d_A_about_36 : decode b_A_about 36 = .ok (.ireturn, 1) := by decide +kernel
theorem d_A_about_37 : decode b_A_about 37 = .ok (.aload_n 3, 1) := by decide +kernel
theorem d_A_about_38 : decode b_A_about 38 = .ok (.getfield 160, 3) := by decide +kernel
theorem d_A_about_41 : decode b_A_about 41 = .ok (.ireturn, 1) := by decide +kernel
theorem d_A_about_42 : decode b_A_about 42 = .ok (.aload_n 3, 1) := by decide +kernel
theorem d_A_about_43 : decode b_A_about 43 = .ok (.getfield 163, 3) := by decide +kernel
theorem d_A_about_46 : decode b_A_about 46 = .ok (.ireturn, 1) := by decide +kernel
theorem d_A_about_47 : decode b_A_about 47 = .ok (.new 41, 3) := by decide +kernel
theorem d_A_about_50 : decode b_A_about 50 = .ok (.dup, 1) := by decide +kernel
theorem d_A_about_51 : decode b_A_about 51 = .ok (.ldc 166, 2) := by decide +kernel
theorem d_A_about_53 : decode b_A_about 53 = .ok (.invokespecial 45, 3) := by decide +kernel
theorem d_A_about_56 : decode b_A_about 56 = .ok (.athrow, 1) := by decide +kernel
theorem w_A_about (d : Nat) (a0 : Option Nat) (a1 : Int32) (a2 : Int32) (h : gk_H) : gk_P gx_I (d + 9) y_A_about b_A_about 4 (some .int) [] (f_A_about a0 a1 a2 h) 0 [(0, va_rf a0), (1, .int a1), (2, .int a2)] [] h := by
  unfold f_A_about
  refine gk_aload_n (pc := 0) 0 d_A_about_0 rfl ?_
  refine gk_iload_n (pc := 1) 1 d_A_about_1 rfl ?_
  refine gk_callVXR (pc := 2) (d := (d + 8)) (as := [.int a1]) (n := 1) 5 d_A_about_2 rfl rfl rfl rfl (Nat.le_of_ble_eq_true rfl) tw_1583 tw_1585 tw_12 tw_91 cw_A_atDepth hy_A_atDepth (Nat.le_of_ble_eq_true rfl) (p_A_atDepth d a0 a1 h) (fun _ => rfl) fun x1 h1 => ?_
  refine gk_astore_n (pc := 5) (L' := [(3, va_rf x1), (0, va_rf a0), (1, .int a1), (2, .int a2)]) d_A_about_5 (Nat.le_of_ble_eq_true rfl) rfl ?_
  refine gk_iload_n (pc := 6) 3 d_A_about_6 rfl ?_
  refine gk_ite (fun z7_0 => ?_) (fun z7_0 => ?_)
  · refine gk_tsw_in (pc := 7) (0 : Int32) 32 d_A_about_7 z7_0 (by decide) (by decide) rfl rfl ?_
    refine gk_aload_n (pc := 32) 0 d_A_about_32 rfl ?_
    refine gk_getI (pc := 33) 2 0 d_A_about_33 rfl (Nat.le_of_ble_eq_true rfl) tw_190 fun x2 => ?_
    exact gk_iret (pc := 36) rfl d_A_about_36 rfl
  ·
    refine gk_ite (fun z7_1 => ?_) (fun z7_1 => ?_)
    · refine gk_tsw_in (pc := 7) (1 : Int32) 37 d_A_about_7 z7_1 (by decide) (by decide) rfl rfl ?_
      refine gk_aload_n (pc := 37) 0 d_A_about_37 rfl ?_
      refine gk_getI (pc := 38) 2 4 d_A_about_38 rfl (Nat.le_of_ble_eq_true rfl) tw_214 fun x3 => ?_
      exact gk_iret (pc := 41) rfl d_A_about_41 rfl
    ·
      refine gk_ite (fun z7_2 => ?_) (fun z7_2 => ?_)
      · refine gk_tsw_in (pc := 7) (2 : Int32) 42 d_A_about_7 z7_2 (by decide) (by decide) rfl rfl ?_
        refine gk_aload_n (pc := 42) 0 d_A_about_42 rfl ?_
        refine gk_getI (pc := 43) 2 5 d_A_about_43 rfl (Nat.le_of_ble_eq_true rfl) tw_217 fun x4 => ?_
        exact gk_iret (pc := 46) rfl d_A_about_46 rfl
      ·
        refine gk_tsw_out (pc := 7) 47 d_A_about_7 (by have e0 := gk_neT z7_0 (by decide : (0 : Int32).toInt = 0); have e1 := gk_neT z7_1 (by decide : (1 : Int32).toInt = 1); have e2 := gk_neT z7_2 (by decide : (2 : Int32).toInt = 2); omega) rfl ?_
        exact gk_throw (pc := 47) (text := "only kind, rows and columns are told") (is := 166) rfl (by omega) (by decide +kernel) (by decide +kernel) tw_405 tw_104 (by decide +kernel) ex_IllegalArgumentException_45 eg_IllegalArgumentException_45 d_A_about_47 d_A_about_50 d_A_about_51 d_A_about_53 d_A_about_56 (Nat.le_of_ble_eq_true rfl)
theorem p_A_about (d : Nat) (a0 : Option Nat) (a1 : Int32) (a2 : Int32) (h : gk_H) : ∀ r h1, f_A_about a0 a1 a2 h = some (r, h1) → gk_M (d + 9) y_A_about b_A_about 4 (some .int) [va_rf a0, .int a1, .int a2] h (gx_I r) h1 :=
  fun r h1 e => gk_M_of2 (by decide +kernel) (by simp [lv_args, gk_cat_rf, gk_catI, gk_catJ, gk_catD, gv_V, gv_I, gv_J, gv_D, gv_R]) (by simp [lg_sl, gk_cat_rf, gk_catI, gk_catJ, gk_catD, gv_V, gv_I, gv_J, gv_D, gv_R]) (w_A_about d a0 a1 a2 h r h1 e)
theorem d_A_cellAtDepth_0 : decode b_A_cellAtDepth 0 = .ok (.aload_n 0, 1) := by decide +kernel
theorem d_A_cellAtDepth_1 : decode b_A_cellAtDepth 1 = .ok (.iload_n 1, 1) := by decide +kernel
theorem d_A_cellAtDepth_2 : decode b_A_cellAtDepth 2 = .ok (.invokevirtual 157, 3) := by decide +kernel
theorem d_A_cellAtDepth_5 : decode b_A_cellAtDepth 5 = .ok (.astore 4, 2) := by decide +kernel
theorem d_A_cellAtDepth_7 : decode b_A_cellAtDepth 7 = .ok (.iload_n 2, 1) := by decide +kernel
theorem d_A_cellAtDepth_8 : decode b_A_cellAtDepth 8 = .ok (.ifCond .lt 25, 3) := by decide +kernel
theorem d_A_cellAtDepth_11 : decode b_A_cellAtDepth 11 = .ok (.iload_n 2, 1) := by decide +kernel
theorem d_A_cellAtDepth_12 : decode b_A_cellAtDepth 12 = .ok (.aload 4, 2) := by decide +kernel
theorem d_A_cellAtDepth_14 : decode b_A_cellAtDepth 14 = .ok (.getfield 160, 3) := by decide +kernel
theorem d_A_cellAtDepth_17 : decode b_A_cellAtDepth 17 = .ok (.if_icmp .ge 16, 3) := by decide +kernel
theorem d_A_cellAtDepth_20 : decode b_A_cellAtDepth 20 = .ok (.iload_n 3, 1) := by decide +kernel
theorem d_A_cellAtDepth_21 : decode b_A_cellAtDepth 21 = .ok (.ifCond .lt 12, 3) := by decide +kernel
theorem d_A_cellAtDepth_24 : decode b_A_cellAtDepth 24 = .ok (.iload_n 3, 1) := by decide +kernel
theorem d_A_cellAtDepth_25 : decode b_A_cellAtDepth 25 = .ok (.aload 4, 2) := by decide +kernel
theorem d_A_cellAtDepth_27 : decode b_A_cellAtDepth 27 = .ok (.getfield 163, 3) := by decide +kernel
theorem d_A_cellAtDepth_30 : decode b_A_cellAtDepth 30 = .ok (.if_icmp .lt 13, 3) := by decide +kernel
theorem d_A_cellAtDepth_33 : decode b_A_cellAtDepth 33 = .ok (.new 192, 3) := by decide +kernel
theorem d_A_cellAtDepth_36 : decode b_A_cellAtDepth 36 = .ok (.dup, 1) := by decide +kernel
theorem d_A_cellAtDepth_37 : decode b_A_cellAtDepth 37 = .ok (.ldc 197, 2) := by decide +kernel
theorem d_A_cellAtDepth_39 : decode b_A_cellAtDepth 39 = .ok (.invokespecial 196, 3) := by decide +kernel
theorem d_A_cellAtDepth_42 : decode b_A_cellAtDepth 42 = .ok (.athrow, 1) := by decide +kernel
theorem d_A_cellAtDepth_43 : decode b_A_cellAtDepth 43 = .ok (.aload 4, 2) := by decide +kernel
theorem d_A_cellAtDepth_45 : decode b_A_cellAtDepth 45 = .ok (.iload_n 2, 1) := by decide +kernel
theorem d_A_cellAtDepth_46 : decode b_A_cellAtDepth 46 = .ok (.aload 4, 2) := by decide +kernel
theorem d_A_cellAtDepth_48 : decode b_A_cellAtDepth 48 = .ok (.getfield 163, 3) := by decide +kernel
theorem d_A_cellAtDepth_51 : decode b_A_cellAtDepth 51 = .ok (.imul, 1) := by decide +kernel
theorem d_A_cellAtDepth_52 : decode b_A_cellAtDepth 52 = .ok (.iload_n 3, 1) := by decide +kernel
theorem d_A_cellAtDepth_53 : decode b_A_cellAtDepth 53 = .ok (.iadd, 1) := by decide +kernel
theorem d_A_cellAtDepth_54 : decode b_A_cellAtDepth 54 = .ok (.invokevirtual 199, 3) := by decide +kernel
theorem d_A_cellAtDepth_57 : decode b_A_cellAtDepth 57 = .ok (.areturn, 1) := by decide +kernel
theorem p_A_cellAtDepth_b33 (d : Nat)   (h : gk_H) : gk_P gx_R (d + 9) y_A_cellAtDepth b_A_cellAtDepth 5 (some (.object "ValueAlgebra$Value")) [] (f_A_cellAtDepth_b33   h) 33 [] [] h := by
  unfold f_A_cellAtDepth_b33
  exact gk_throw (pc := 33) (text := "there is no such cell") (is := 197) rfl (by omega) (by decide +kernel) (by decide +kernel) tw_1587 tw_112 (by decide +kernel) ex_IndexOutOfBoundsException_196 eg_IndexOutOfBoundsException_196 d_A_cellAtDepth_33 d_A_cellAtDepth_36 d_A_cellAtDepth_37 d_A_cellAtDepth_39 d_A_cellAtDepth_42 (Nat.le_of_ble_eq_true rfl)
theorem w_A_cellAtDepth (d : Nat) (a0 : Option Nat) (a1 : Int32) (a2 : Int32) (a3 : Int32) (h : gk_H) : gk_P gx_R (d + 9) y_A_cellAtDepth b_A_cellAtDepth 5 (some (.object "ValueAlgebra$Value")) [] (f_A_cellAtDepth a0 a1 a2 a3 h) 0 [(0, va_rf a0), (1, .int a1), (2, .int a2), (3, .int a3)] [] h := by
  unfold f_A_cellAtDepth
  refine gk_aload_n (pc := 0) 0 d_A_cellAtDepth_0 rfl ?_
  refine gk_iload_n (pc := 1) 1 d_A_cellAtDepth_1 rfl ?_
  refine gk_callVXR (pc := 2) (d := (d + 8)) (as := [.int a1]) (n := 1) 5 d_A_cellAtDepth_2 rfl rfl rfl rfl (Nat.le_of_ble_eq_true rfl) tw_1583 tw_1585 tw_12 tw_91 cw_A_atDepth hy_A_atDepth (Nat.le_of_ble_eq_true rfl) (p_A_atDepth d a0 a1 h) (fun _ => rfl) fun x1 h1 => ?_
  refine gk_astore (pc := 5) (L' := [(4, va_rf x1), (0, va_rf a0), (1, .int a1), (2, .int a2), (3, .int a3)]) d_A_cellAtDepth_5 (Nat.le_of_ble_eq_true rfl) rfl ?_
  refine gk_iload_n (pc := 7) 3 d_A_cellAtDepth_7 rfl ?_
  refine gk_if_lt (pc := 8) 33 d_A_cellAtDepth_8 rfl (fun _ => ?_) (fun _ => ?_)
  · refine gk_weak [] (L' := []) rfl ?_
    exact p_A_cellAtDepth_b33 d h1
  · refine gk_iload_n (pc := 11) 3 d_A_cellAtDepth_11 rfl ?_
    refine gk_aload (pc := 12) 0 d_A_cellAtDepth_12 rfl ?_
    refine gk_getI (pc := 14) 2 4 d_A_cellAtDepth_14 rfl (Nat.le_of_ble_eq_true rfl) tw_214 fun x2 => ?_
    refine gk_icmp_ge (pc := 17) 33 d_A_cellAtDepth_17 rfl (fun _ => ?_) (fun _ => ?_)
    · refine gk_weak [] (L' := []) rfl ?_
      exact p_A_cellAtDepth_b33 d h1
    · refine gk_iload_n (pc := 20) 4 d_A_cellAtDepth_20 rfl ?_
      refine gk_if_lt (pc := 21) 33 d_A_cellAtDepth_21 rfl (fun _ => ?_) (fun _ => ?_)
      · refine gk_weak [] (L' := []) rfl ?_
        exact p_A_cellAtDepth_b33 d h1
      · refine gk_iload_n (pc := 24) 4 d_A_cellAtDepth_24 rfl ?_
        refine gk_aload (pc := 25) 0 d_A_cellAtDepth_25 rfl ?_
        refine gk_getI (pc := 27) 2 5 d_A_cellAtDepth_27 rfl (Nat.le_of_ble_eq_true rfl) tw_217 fun x3 => ?_
        refine gk_icmp_lt (pc := 30) 43 d_A_cellAtDepth_30 rfl (fun _ => ?_) (fun _ => ?_)
        · refine gk_aload (pc := 43) 0 d_A_cellAtDepth_43 rfl ?_
          refine gk_iload_n (pc := 45) 3 d_A_cellAtDepth_45 rfl ?_
          refine gk_aload (pc := 46) 0 d_A_cellAtDepth_46 rfl ?_
          refine gk_getI (pc := 48) 2 5 d_A_cellAtDepth_48 rfl (Nat.le_of_ble_eq_true rfl) tw_217 fun x4 => ?_
          refine gk_imul (pc := 51) d_A_cellAtDepth_51 ?_
          refine gk_iload_n (pc := 52) 4 d_A_cellAtDepth_52 rfl ?_
          refine gk_iadd (pc := 53) d_A_cellAtDepth_53 ?_
          refine gk_callV (pc := 54) (d := (d + 8)) (w' := gv_R) (as := [.int ((a2 * x4) + a3)]) (n := 1) 2 d_A_cellAtDepth_54 rfl rfl rfl rfl (Nat.le_of_ble_eq_true rfl) tw_1620 tw_780 tw_781 tw_97 cw_Va_cellAt hy_Va_cellAt (Nat.le_of_ble_eq_true rfl) (p_Va_cellAt (d + 8) x1 ((a2 * x4) + a3) h1) fun x5 h2 => ?_
          exact gk_aret (pc := 57) rfl d_A_cellAtDepth_57 rfl (Or.inl ⟨_, rfl⟩)
        · refine gk_weak [] (L' := []) rfl ?_
          exact p_A_cellAtDepth_b33 d h1
theorem p_A_cellAtDepth (d : Nat) (a0 : Option Nat) (a1 : Int32) (a2 : Int32) (a3 : Int32) (h : gk_H) : ∀ r h1, f_A_cellAtDepth a0 a1 a2 a3 h = some (r, h1) → gk_M (d + 9) y_A_cellAtDepth b_A_cellAtDepth 5 (some (.object "ValueAlgebra$Value")) [va_rf a0, .int a1, .int a2, .int a3] h (gx_R r) h1 :=
  fun r h1 e => gk_M_of2 (by decide +kernel) (by simp [lv_args, gk_cat_rf, gk_catI, gk_catJ, gk_catD, gv_V, gv_I, gv_J, gv_D, gv_R]) (by simp [lg_sl, gk_cat_rf, gk_catI, gk_catJ, gk_catD, gv_V, gv_I, gv_J, gv_D, gv_R]) (w_A_cellAtDepth d a0 a1 a2 a3 h r h1 e)
theorem d_A_cell_0 : decode b_A_cell 0 = .ok (.aload_n 0, 1) := by decide +kernel
theorem d_A_cell_1 : decode b_A_cell 1 = .ok (.iload_n 1, 1) := by decide +kernel
theorem d_A_cell_2 : decode b_A_cell 2 = .ok (.iload_n 2, 1) := by decide +kernel
theorem d_A_cell_3 : decode b_A_cell 3 = .ok (.iload_n 3, 1) := by decide +kernel
theorem d_A_cell_4 : decode b_A_cell 4 = .ok (.invokevirtual 168, 3) := by decide +kernel
theorem d_A_cell_7 : decode b_A_cell 7 = .ok (.astore 5, 2) := by decide +kernel
theorem d_A_cell_9 : decode b_A_cell 9 = .ok (.iload 4, 2) := by decide +kernel
theorem d_A_cell_11 : decode b_A_cell 11 = .ok (.lookupswitch 57 #[(0, 25), (1, 31)], 25) := by decide +kernel
theorem d_A_cell_36 : decode b_A_cell 36 = .ok (.aload 5, 2) := by decide +kernel
theorem d_A_cell_38 : decode b_A_cell 38 = .ok (.getfield 91, 3) := by decide +kernel
theorem d_A_cell_41 : decode b_A_cell 41 = .ok (.ireturn, 1) := by decide +kernel
theorem d_A_cell_42 : decode b_A_cell 42 = .ok (.aload 5, 2) := by decide +kernel
theorem d_A_cell_44 : decode b_A_cell 44 = .ok (.getfield 91, 3) := by decide +kernel
theorem d_A_cell_47 : decode b_A_cell 47 = .ok (.iconst 2, 1) := by decide +kernel
theorem d_A_cell_48 : decode b_A_cell 48 = .ok (.if_icmp .ne 14, 3) := by decide +kernel
theorem d_A_cell_51 : decode b_A_cell 51 = .ok (.aload 5, 2) := by decide +kernel
theorem d_A_cell_53 : decode b_A_cell 53 = .ok (.getfield 172, 3) := by decide +kernel
theorem d_A_cell_56 : decode b_A_cell 56 = .ok (.invokevirtual 176, 3) := by decide +kernel
theorem d_A_cell_59 : decode b_A_cell 59 = .ok (.goto 8, 3) := by decide +kernel
theorem d_A_cell_62 : decode b_A_cell 62 = .ok (.aload 5, 2) := by decide +kernel
theorem d_A_cell_64 : decode b_A_cell 64 = .ok (.getfield 179, 3) := by decide +kernel
theorem d_A_cell_67 : decode b_A_cell 67 = .ok (.ireturn, 1) := by decide +kernel
theorem d_A_cell_68 : decode b_A_cell 68 = .ok (.new 41, 3) := by decide +kernel
theorem d_A_cell_71 : decode b_A_cell 71 = .ok (.dup, 1) := by decide +kernel
theorem d_A_cell_72 : decode b_A_cell 72 = .ok (.ldc 182, 2) := by decide +kernel
theorem d_A_cell_74 : decode b_A_cell 74 = .ok (.invokespecial 45, 3) := by decide +kernel
theorem d_A_cell_77 : decode b_A_cell 77 = .ok (.athrow, 1) := by decide +kernel
theorem p_A_cell_b67 (d : Nat)  (s0 : Int32) (h : gk_H) : gk_P gx_I (d + 10) y_A_cell b_A_cell 6 (some .int) [] (f_A_cell_b67  s0 h) 67 [] [.int s0] h := by
  unfold f_A_cell_b67
  exact gk_iret (pc := 67) rfl d_A_cell_67 rfl
theorem w_A_cell (d : Nat) (a0 : Option Nat) (a1 : Int32) (a2 : Int32) (a3 : Int32) (a4 : Int32) (h : gk_H) : gk_P gx_I (d + 10) y_A_cell b_A_cell 6 (some .int) [] (f_A_cell a0 a1 a2 a3 a4 h) 0 [(0, va_rf a0), (1, .int a1), (2, .int a2), (3, .int a3), (4, .int a4)] [] h := by
  unfold f_A_cell
  refine gk_aload_n (pc := 0) 0 d_A_cell_0 rfl ?_
  refine gk_iload_n (pc := 1) 1 d_A_cell_1 rfl ?_
  refine gk_iload_n (pc := 2) 2 d_A_cell_2 rfl ?_
  refine gk_iload_n (pc := 3) 3 d_A_cell_3 rfl ?_
  refine gk_callVXR (pc := 4) (d := (d + 9)) (as := [.int a1, .int a2, .int a3]) (n := 3) 5 d_A_cell_4 rfl rfl rfl rfl (Nat.le_of_ble_eq_true rfl) tw_1615 tw_1617 tw_13 tw_91 cw_A_cellAtDepth hy_A_cellAtDepth (Nat.le_of_ble_eq_true rfl) (p_A_cellAtDepth d a0 a1 a2 a3 h) (fun _ => rfl) fun x1 h1 => ?_
  refine gk_astore (pc := 7) (L' := [(5, va_rf x1), (0, va_rf a0), (1, .int a1), (2, .int a2), (3, .int a3), (4, .int a4)]) d_A_cell_7 (Nat.le_of_ble_eq_true rfl) rfl ?_
  refine gk_iload (pc := 9) 5 d_A_cell_9 rfl ?_
  refine gk_ite (fun z11_0 => ?_) (fun z11_0 => ?_)
  · refine gk_lsw (pc := 11) 36 d_A_cell_11 (by decide) (by rw [z11_0]) rfl ?_
    refine gk_aload (pc := 36) 0 d_A_cell_36 rfl ?_
    refine gk_getI (pc := 38) 2 0 d_A_cell_38 rfl (Nat.le_of_ble_eq_true rfl) tw_190 fun x2 => ?_
    exact gk_iret (pc := 41) rfl d_A_cell_41 rfl
  ·
    refine gk_ite (fun z11_1 => ?_) (fun z11_1 => ?_)
    · refine gk_lsw (pc := 11) 42 d_A_cell_11 (by decide) (by rw [z11_1]) rfl ?_
      refine gk_aload (pc := 42) 0 d_A_cell_42 rfl ?_
      refine gk_getI (pc := 44) 2 0 d_A_cell_44 rfl (Nat.le_of_ble_eq_true rfl) tw_190 fun x3 => ?_
      refine gk_iconst (pc := 47) (2 : Int32) d_A_cell_47 rfl ?_
      refine gk_icmp_ne (pc := 48) 62 d_A_cell_48 rfl (fun _ => ?_) (fun _ => ?_)
      · refine gk_aload (pc := 51) 0 d_A_cell_51 rfl ?_
        refine gk_getR (pc := 53) 2 3 d_A_cell_53 rfl (Nat.le_of_ble_eq_true rfl) tw_211 fun x4 => ?_
        refine gk_callV (pc := 56) (d := (d + 9)) (w' := gv_I) (as := []) (n := 0) 0 d_A_cell_56 rfl rfl rfl rfl (Nat.le_of_ble_eq_true rfl) tw_1621 tw_613 tw_614 tw_94 cw_St_length hy_St_length (Nat.le_of_ble_eq_true rfl) (p_St_length (d + 8) x4 h1) fun x5 h2 => ?_
        refine gk_goto (pc := 59) 67 d_A_cell_59 rfl ?_
        refine gk_weak [] (L' := []) rfl ?_
        exact p_A_cell_b67 d x5 h2
      · refine gk_aload (pc := 62) 0 d_A_cell_62 rfl ?_
        refine gk_getI (pc := 64) 2 1 d_A_cell_64 rfl (Nat.le_of_ble_eq_true rfl) tw_197 fun x6 => ?_
        refine gk_weak [] (L' := []) rfl ?_
        exact p_A_cell_b67 d x6 h1
    ·
      refine gk_lsw (pc := 11) 68 d_A_cell_11 (by decide) (by show Op.lookupswitch.offset [(0, 25), (1, 31)] _ _ = _; rw [lv_osw z11_0 (by decide), lv_osw z11_1 (by decide)]) rfl ?_
      exact gk_throw (pc := 68) (text := "only kind and measure are told") (is := 182) rfl (by omega) (by decide +kernel) (by decide +kernel) tw_405 tw_104 (by decide +kernel) ex_IllegalArgumentException_45 eg_IllegalArgumentException_45 d_A_cell_68 d_A_cell_71 d_A_cell_72 d_A_cell_74 d_A_cell_77 (Nat.le_of_ble_eq_true rfl)
theorem p_A_cell (d : Nat) (a0 : Option Nat) (a1 : Int32) (a2 : Int32) (a3 : Int32) (a4 : Int32) (h : gk_H) : ∀ r h1, f_A_cell a0 a1 a2 a3 a4 h = some (r, h1) → gk_M (d + 10) y_A_cell b_A_cell 6 (some .int) [va_rf a0, .int a1, .int a2, .int a3, .int a4] h (gx_I r) h1 :=
  fun r h1 e => gk_M_of2 (by decide +kernel) (by simp [lv_args, gk_cat_rf, gk_catI, gk_catJ, gk_catD, gv_V, gv_I, gv_J, gv_D, gv_R]) (by simp [lg_sl, gk_cat_rf, gk_catI, gk_catJ, gk_catD, gv_V, gv_I, gv_J, gv_D, gv_R]) (w_A_cell d a0 a1 a2 a3 a4 h r h1 e)
theorem d_A_value_0 : decode b_A_value 0 = .ok (.aload_n 0, 1) := by decide +kernel
theorem d_A_value_1 : decode b_A_value 1 = .ok (.iload_n 1, 1) := by decide +kernel
theorem d_A_value_2 : decode b_A_value 2 = .ok (.iload_n 2, 1) := by decide +kernel
theorem d_A_value_3 : decode b_A_value 3 = .ok (.iload_n 3, 1) := by decide +kernel
theorem d_A_value_4 : decode b_A_value 4 = .ok (.invokevirtual 168, 3) := by decide +kernel
theorem d_A_value_7 : decode b_A_value 7 = .ok (.getfield 184, 3) := by decide +kernel
theorem d_A_value_10 : decode b_A_value 10 = .ok (.dreturn, 1) := by decide +kernel
theorem w_A_value (d : Nat) (a0 : Option Nat) (a1 : Int32) (a2 : Int32) (a3 : Int32) (h : gk_H) : gk_P gx_D (d + 10) y_A_value b_A_value 4 (some .double) [] (f_A_value a0 a1 a2 a3 h) 0 [(0, va_rf a0), (1, .int a1), (2, .int a2), (3, .int a3)] [] h := by
  unfold f_A_value
  refine gk_aload_n (pc := 0) 0 d_A_value_0 rfl ?_
  refine gk_iload_n (pc := 1) 1 d_A_value_1 rfl ?_
  refine gk_iload_n (pc := 2) 2 d_A_value_2 rfl ?_
  refine gk_iload_n (pc := 3) 3 d_A_value_3 rfl ?_
  refine gk_callVXR (pc := 4) (d := (d + 9)) (as := [.int a1, .int a2, .int a3]) (n := 3) 5 d_A_value_4 rfl rfl rfl rfl (Nat.le_of_ble_eq_true rfl) tw_1615 tw_1617 tw_13 tw_91 cw_A_cellAtDepth hy_A_cellAtDepth (Nat.le_of_ble_eq_true rfl) (p_A_cellAtDepth d a0 a1 a2 a3 h) (fun _ => rfl) fun x1 h1 => ?_
  refine gk_getD (pc := 7) 2 2 d_A_value_7 rfl (Nat.le_of_ble_eq_true rfl) tw_203 fun x2 => ?_
  exact gk_dret (pc := 10) rfl d_A_value_10 rfl
theorem p_A_value (d : Nat) (a0 : Option Nat) (a1 : Int32) (a2 : Int32) (a3 : Int32) (h : gk_H) : ∀ r h1, f_A_value a0 a1 a2 a3 h = some (r, h1) → gk_M (d + 10) y_A_value b_A_value 4 (some .double) [va_rf a0, .int a1, .int a2, .int a3] h (gx_D r) h1 :=
  fun r h1 e => gk_M_of2 (by decide +kernel) (by simp [lv_args, gk_cat_rf, gk_catI, gk_catJ, gk_catD, gv_V, gv_I, gv_J, gv_D, gv_R]) (by simp [lg_sl, gk_cat_rf, gk_catI, gk_catJ, gk_catD, gv_V, gv_I, gv_J, gv_D, gv_R]) (w_A_value d a0 a1 a2 a3 h r h1 e)
theorem d_A_letter_0 : decode b_A_letter 0 = .ok (.aload_n 0, 1) := by decide +kernel
theorem d_A_letter_1 : decode b_A_letter 1 = .ok (.iload_n 1, 1) := by decide +kernel
theorem d_A_letter_2 : decode b_A_letter 2 = .ok (.iload_n 2, 1) := by decide +kernel
theorem d_A_letter_3 : decode b_A_letter 3 = .ok (.iload_n 3, 1) := by decide +kernel
theorem d_A_letter_4 : decode b_A_letter 4 = .ok (.invokevirtual 168, 3) := by decide +kernel
theorem d_A_letter_7 : decode b_A_letter 7 = .ok (.getfield 172, 3) := by decide +kernel
theorem d_A_letter_10 : decode b_A_letter 10 = .ok (.astore 5, 2) := by decide +kernel
theorem d_A_letter_12 : decode b_A_letter 12 = .ok (.iload 4, 2) := by decide +kernel
theorem d_A_letter_14 : decode b_A_letter 14 = .ok (.ifCond .lt 23, 3) := by decide +kernel
theorem d_A_letter_17 : decode b_A_letter 17 = .ok (.iload 4, 2) := by decide +kernel
theorem d_A_letter_19 : decode b_A_letter 19 = .ok (.aload 5, 2) := by decide +kernel
theorem d_A_letter_21 : decode b_A_letter 21 = .ok (.invokevirtual 176, 3) := by decide +kernel
theorem d_A_letter_24 : decode b_A_letter 24 = .ok (.if_icmp .ge 13, 3) := by decide +kernel
theorem d_A_letter_27 : decode b_A_letter 27 = .ok (.aload 5, 2) := by decide +kernel
theorem d_A_letter_29 : decode b_A_letter 29 = .ok (.iload 4, 2) := by decide +kernel
theorem d_A_letter_31 : decode b_A_letter 31 = .ok (.invokevirtual 188, 3) := by decide +kernel
theorem d_A_letter_34 : decode b_A_letter 34 = .ok (.goto 4, 3) := by decide +kernel
theorem d_A_letter_37 : decode b_A_letter 37 = .ok (.iconst (-1), 1) := by decide +kernel
theorem d_A_letter_38 : decode b_A_letter 38 = .ok (.ireturn, 1) := by decide +kernel
theorem p_A_letter_b38 (d : Nat)  (s0 : Int32) (h : gk_H) : gk_P gx_I (d + 10) y_A_letter b_A_letter 6 (some .int) [] (f_A_letter_b38  s0 h) 38 [] [.int s0] h := by
  unfold f_A_letter_b38
  exact gk_iret (pc := 38) rfl d_A_letter_38 rfl
theorem p_A_letter_b37 (d : Nat)   (h : gk_H) : gk_P gx_I (d + 10) y_A_letter b_A_letter 6 (some .int) [] (f_A_letter_b37   h) 37 [] [] h := by
  unfold f_A_letter_b37
  refine gk_iconst (pc := 37) (-1 : Int32) d_A_letter_37 rfl ?_
  exact p_A_letter_b38 d (-1 : Int32) h
theorem w_A_letter (d : Nat) (a0 : Option Nat) (a1 : Int32) (a2 : Int32) (a3 : Int32) (a4 : Int32) (h : gk_H) : gk_P gx_I (d + 10) y_A_letter b_A_letter 6 (some .int) [] (f_A_letter a0 a1 a2 a3 a4 h) 0 [(0, va_rf a0), (1, .int a1), (2, .int a2), (3, .int a3), (4, .int a4)] [] h := by
  unfold f_A_letter
  refine gk_aload_n (pc := 0) 0 d_A_letter_0 rfl ?_
  refine gk_iload_n (pc := 1) 1 d_A_letter_1 rfl ?_
  refine gk_iload_n (pc := 2) 2 d_A_letter_2 rfl ?_
  refine gk_iload_n (pc := 3) 3 d_A_letter_3 rfl ?_
  refine gk_callVXR (pc := 4) (d := (d + 9)) (as := [.int a1, .int a2, .int a3]) (n := 3) 5 d_A_letter_4 rfl rfl rfl rfl (Nat.le_of_ble_eq_true rfl) tw_1615 tw_1617 tw_13 tw_91 cw_A_cellAtDepth hy_A_cellAtDepth (Nat.le_of_ble_eq_true rfl) (p_A_cellAtDepth d a0 a1 a2 a3 h) (fun _ => rfl) fun x1 h1 => ?_
  refine gk_getR (pc := 7) 2 3 d_A_letter_7 rfl (Nat.le_of_ble_eq_true rfl) tw_211 fun x2 => ?_
  refine gk_astore (pc := 10) (L' := [(5, va_rf x2), (0, va_rf a0), (1, .int a1), (2, .int a2), (3, .int a3), (4, .int a4)]) d_A_letter_10 (Nat.le_of_ble_eq_true rfl) rfl ?_
  refine gk_iload (pc := 12) 5 d_A_letter_12 rfl ?_
  refine gk_if_lt (pc := 14) 37 d_A_letter_14 rfl (fun _ => ?_) (fun _ => ?_)
  · refine gk_weak [] (L' := []) rfl ?_
    exact p_A_letter_b37 d h1
  · refine gk_iload (pc := 17) 5 d_A_letter_17 rfl ?_
    refine gk_aload (pc := 19) 0 d_A_letter_19 rfl ?_
    refine gk_callV (pc := 21) (d := (d + 9)) (w' := gv_I) (as := []) (n := 0) 0 d_A_letter_21 rfl rfl rfl rfl (Nat.le_of_ble_eq_true rfl) tw_1621 tw_613 tw_614 tw_94 cw_St_length hy_St_length (Nat.le_of_ble_eq_true rfl) (p_St_length (d + 8) x2 h1) fun x3 h2 => ?_
    refine gk_icmp_ge (pc := 24) 37 d_A_letter_24 rfl (fun _ => ?_) (fun _ => ?_)
    · refine gk_weak [] (L' := []) rfl ?_
      exact p_A_letter_b37 d h2
    · refine gk_aload (pc := 27) 0 d_A_letter_27 rfl ?_
      refine gk_iload (pc := 29) 5 d_A_letter_29 rfl ?_
      refine gk_callV (pc := 31) (d := (d + 9)) (w' := gv_I) (as := [.int a4]) (n := 1) 0 d_A_letter_31 rfl rfl rfl rfl (Nat.le_of_ble_eq_true rfl) tw_1637 tw_811 tw_812 tw_94 cw_St_charAt hy_St_charAt (Nat.le_of_ble_eq_true rfl) (p_St_charAt (d + 6) x2 a4 h2) fun x4 h3 => ?_
      refine gk_goto (pc := 34) 38 d_A_letter_34 rfl ?_
      refine gk_weak [] (L' := []) rfl ?_
      exact p_A_letter_b38 d x4 h3
theorem p_A_letter (d : Nat) (a0 : Option Nat) (a1 : Int32) (a2 : Int32) (a3 : Int32) (a4 : Int32) (h : gk_H) : ∀ r h1, f_A_letter a0 a1 a2 a3 a4 h = some (r, h1) → gk_M (d + 10) y_A_letter b_A_letter 6 (some .int) [va_rf a0, .int a1, .int a2, .int a3, .int a4] h (gx_I r) h1 :=
  fun r h1 e => gk_M_of2 (by decide +kernel) (by simp [lv_args, gk_cat_rf, gk_catI, gk_catJ, gk_catD, gv_V, gv_I, gv_J, gv_D, gv_R]) (by simp [lg_sl, gk_cat_rf, gk_catI, gk_catJ, gk_catD, gv_V, gv_I, gv_J, gv_D, gv_R]) (w_A_letter d a0 a1 a2 a3 a4 h r h1 e)
