/-! GENERATED: the law and its wrappers -/
abbrev b_L_letter : ByteArray := method_15_code
abbrev y_L_letter : MethodName := ⟨"ValueAlgebraLaw", "letter", "(LValueAlgebra;IIII[J)I"⟩
theorem cw_L_letter : Cond.codeWith y_L_letter b_L_letter 7 (some .int) [(0, 14, 17, 44)] ∈ gk_T := gk_T_mem (List.mem_append_right _ (List.mem_append_right _ (List.mem_append_right _ (List.mem_append_right _ (List.mem_append_right _ (List.mem_append_right _ (List.mem_append_right _ (List.mem_append_right _ (List.mem_append_left _ (List.mem_of_getElem? (i := 102) rfl)))))))))) rfl
theorem hy_L_letter : y_L_letter.cls ≠ "java/lang/invoke/MethodHandle" ∧ y_L_letter.cls ≠ "java/lang/invoke/VarHandle" ∧ (parseMethodDescriptor y_L_letter.desc).map (fun d => d.parameters.length) = some 6 := by decide +kernel
abbrev b_L_value : ByteArray := method_14_code
abbrev y_L_value : MethodName := ⟨"ValueAlgebraLaw", "value", "(LValueAlgebra;III[D)I"⟩
theorem cw_L_value : Cond.codeWith y_L_value b_L_value 6 (some .int) [(0, 11, 14, 44)] ∈ gk_T := gk_T_mem (List.mem_append_right _ (List.mem_append_right _ (List.mem_append_right _ (List.mem_append_right _ (List.mem_append_right _ (List.mem_append_right _ (List.mem_append_right _ (List.mem_append_right _ (List.mem_append_left _ (List.mem_of_getElem? (i := 95) rfl)))))))))) rfl
theorem hy_L_value : y_L_value.cls ≠ "java/lang/invoke/MethodHandle" ∧ y_L_value.cls ≠ "java/lang/invoke/VarHandle" ∧ (parseMethodDescriptor y_L_value.desc).map (fun d => d.parameters.length) = some 5 := by decide +kernel
abbrev b_L_cell : ByteArray := method_13_code
abbrev y_L_cell : MethodName := ⟨"ValueAlgebraLaw", "cell", "(LValueAlgebra;IIII[J)I"⟩
theorem cw_L_cell : Cond.codeWith y_L_cell b_L_cell 7 (some .int) [(0, 14, 17, 44), (0, 14, 21, 19)] ∈ gk_T := gk_T_mem (List.mem_append_right _ (List.mem_append_right _ (List.mem_append_right _ (List.mem_append_right _ (List.mem_append_right _ (List.mem_append_right _ (List.mem_append_right _ (List.mem_append_right _ (List.mem_append_left _ (List.mem_of_getElem? (i := 80) rfl)))))))))) rfl
theorem hy_L_cell : y_L_cell.cls ≠ "java/lang/invoke/MethodHandle" ∧ y_L_cell.cls ≠ "java/lang/invoke/VarHandle" ∧ (parseMethodDescriptor y_L_cell.desc).map (fun d => d.parameters.length) = some 6 := by decide +kernel
abbrev b_L_about : ByteArray := method_12_code
abbrev y_L_about : MethodName := ⟨"ValueAlgebraLaw", "about", "(LValueAlgebra;II[J)I"⟩
theorem cw_L_about : Cond.codeWith y_L_about b_L_about 5 (some .int) [(0, 10, 13, 44), (0, 10, 17, 19)] ∈ gk_T := gk_T_mem (List.mem_append_right _ (List.mem_append_right _ (List.mem_append_right _ (List.mem_append_right _ (List.mem_append_right _ (List.mem_append_right _ (List.mem_append_right _ (List.mem_append_right _ (List.mem_append_left _ (List.mem_of_getElem? (i := 72) rfl)))))))))) rfl
theorem hy_L_about : y_L_about.cls ≠ "java/lang/invoke/MethodHandle" ∧ y_L_about.cls ≠ "java/lang/invoke/VarHandle" ∧ (parseMethodDescriptor y_L_about.desc).map (fun d => d.parameters.length) = some 4 := by decide +kernel
abbrev b_L_again : ByteArray := method_11_code
abbrev y_L_again : MethodName := ⟨"ValueAlgebraLaw", "again", "(LValueAlgebra;I)I"⟩
theorem cw_L_again : Cond.codeWith y_L_again b_L_again 3 (some .int) [(0, 5, 8, 44), (0, 5, 11, 13)] ∈ gk_T := gk_T_mem (List.mem_append_right _ (List.mem_append_right _ (List.mem_append_right _ (List.mem_append_right _ (List.mem_append_right _ (List.mem_append_right _ (List.mem_append_right _ (List.mem_append_right _ (List.mem_append_left _ (List.mem_of_getElem? (i := 47) rfl)))))))))) rfl
theorem hy_L_again : y_L_again.cls ≠ "java/lang/invoke/MethodHandle" ∧ y_L_again.cls ≠ "java/lang/invoke/VarHandle" ∧ (parseMethodDescriptor y_L_again.desc).map (fun d => d.parameters.length) = some 2 := by decide +kernel
abbrev b_L_drop : ByteArray := method_10_code
abbrev y_L_drop : MethodName := ⟨"ValueAlgebraLaw", "drop", "(LValueAlgebra;)I"⟩
theorem cw_L_drop : Cond.codeWith y_L_drop b_L_drop 2 (some .int) [(0, 4, 7, 13)] ∈ gk_T := gk_T_mem (List.mem_append_right _ (List.mem_append_right _ (List.mem_append_right _ (List.mem_append_right _ (List.mem_append_right _ (List.mem_append_right _ (List.mem_append_right _ (List.mem_append_right _ (List.mem_append_left _ (List.mem_of_getElem? (i := 39) rfl)))))))))) rfl
theorem hy_L_drop : y_L_drop.cls ≠ "java/lang/invoke/MethodHandle" ∧ y_L_drop.cls ≠ "java/lang/invoke/VarHandle" ∧ (parseMethodDescriptor y_L_drop.desc).map (fun d => d.parameters.length) = some 1 := by decide +kernel
abbrev b_L_call : ByteArray := method_9_code
abbrev y_L_call : MethodName := ⟨"ValueAlgebraLaw", "call", "(LValueAlgebra;II)I"⟩
theorem cw_L_call : Cond.codeWith y_L_call b_L_call 4 (some .int) [(0, 6, 9, 19), (0, 6, 12, 13)] ∈ gk_T := gk_T_mem (List.mem_append_right _ (List.mem_append_right _ (List.mem_append_right _ (List.mem_append_right _ (List.mem_append_right _ (List.mem_append_left _ (List.mem_of_getElem? (i := 202) rfl))))))) rfl
theorem hy_L_call : y_L_call.cls ≠ "java/lang/invoke/MethodHandle" ∧ y_L_call.cls ≠ "java/lang/invoke/VarHandle" ∧ (parseMethodDescriptor y_L_call.desc).map (fun d => d.parameters.length) = some 3 := by decide +kernel
abbrev b_L_operate : ByteArray := method_8_code
abbrev y_L_operate : MethodName := ⟨"ValueAlgebraLaw", "operate", "(LValueAlgebra;I)I"⟩
theorem cw_L_operate : Cond.codeWith y_L_operate b_L_operate 3 (some .int) [(0, 5, 8, 19)] ∈ gk_T := gk_T_mem (List.mem_append_right _ (List.mem_append_right _ (List.mem_append_right _ (List.mem_append_right _ (List.mem_append_left _ (List.mem_of_getElem? (i := 192) rfl)))))) rfl
theorem hy_L_operate : y_L_operate.cls ≠ "java/lang/invoke/MethodHandle" ∧ y_L_operate.cls ≠ "java/lang/invoke/VarHandle" ∧ (parseMethodDescriptor y_L_operate.desc).map (fun d => d.parameters.length) = some 2 := by decide +kernel
abbrev b_L_array : ByteArray := method_7_code
abbrev y_L_array : MethodName := ⟨"ValueAlgebraLaw", "array", "(LValueAlgebra;II)I"⟩
theorem cw_L_array : Cond.codeWith y_L_array b_L_array 4 (some .int) [(0, 6, 9, 19)] ∈ gk_T := gk_T_mem (List.mem_append_right _ (List.mem_append_right _ (List.mem_append_right _ (List.mem_append_right _ (List.mem_append_left _ (List.mem_of_getElem? (i := 175) rfl)))))) rfl
theorem hy_L_array : y_L_array.cls ≠ "java/lang/invoke/MethodHandle" ∧ y_L_array.cls ≠ "java/lang/invoke/VarHandle" ∧ (parseMethodDescriptor y_L_array.desc).map (fun d => d.parameters.length) = some 3 := by decide +kernel
abbrev b_L_plain : ByteArray := method_6_code
abbrev y_L_plain : MethodName := ⟨"ValueAlgebraLaw", "plain", "(LValueAlgebra;II)I"⟩
theorem cw_L_plain : Cond.codeWith y_L_plain b_L_plain 4 (some .int) [(0, 6, 9, 19), (0, 6, 12, 13)] ∈ gk_T := gk_T_mem (List.mem_append_right _ (List.mem_append_right _ (List.mem_append_right _ (List.mem_append_right _ (List.mem_append_left _ (List.mem_of_getElem? (i := 162) rfl)))))) rfl
theorem hy_L_plain : y_L_plain.cls ≠ "java/lang/invoke/MethodHandle" ∧ y_L_plain.cls ≠ "java/lang/invoke/VarHandle" ∧ (parseMethodDescriptor y_L_plain.desc).map (fun d => d.parameters.length) = some 3 := by decide +kernel
abbrev b_L_text : ByteArray := method_5_code
abbrev y_L_text : MethodName := ⟨"ValueAlgebraLaw", "text", "(LValueAlgebra;)I"⟩
theorem cw_L_text : Cond.codeWith y_L_text b_L_text 2 (some .int) [(0, 4, 7, 13)] ∈ gk_T := gk_T_mem (List.mem_append_right _ (List.mem_append_right _ (List.mem_append_right _ (List.mem_append_left _ (List.mem_of_getElem? (i := 196) rfl))))) rfl
theorem hy_L_text : y_L_text.cls ≠ "java/lang/invoke/MethodHandle" ∧ y_L_text.cls ≠ "java/lang/invoke/VarHandle" ∧ (parseMethodDescriptor y_L_text.desc).map (fun d => d.parameters.length) = some 1 := by decide +kernel
abbrev b_L_type : ByteArray := method_4_code
abbrev y_L_type : MethodName := ⟨"ValueAlgebraLaw", "type", "(LValueAlgebra;I[J)I"⟩
theorem cw_L_type : Cond.codeWith y_L_type b_L_type 4 (some .int) [(0, 9, 12, 19), (0, 9, 15, 13)] ∈ gk_T := gk_T_mem (List.mem_append_right _ (List.mem_append_right _ (List.mem_append_right _ (List.mem_append_left _ (List.mem_of_getElem? (i := 69) rfl))))) rfl
theorem hy_L_type : y_L_type.cls ≠ "java/lang/invoke/MethodHandle" ∧ y_L_type.cls ≠ "java/lang/invoke/VarHandle" ∧ (parseMethodDescriptor y_L_type.desc).map (fun d => d.parameters.length) = some 3 := by decide +kernel
abbrev b_L_number : ByteArray := method_3_code
abbrev y_L_number : MethodName := ⟨"ValueAlgebraLaw", "number", "(LValueAlgebra;D)I"⟩
theorem cw_L_number : Cond.codeWith y_L_number b_L_number 4 (some .int) [(0, 5, 8, 13)] ∈ gk_T := gk_T_mem (List.mem_append_right _ (List.mem_append_right _ (List.mem_append_left _ (List.mem_of_getElem? (i := 220) rfl)))) rfl
theorem hy_L_number : y_L_number.cls ≠ "java/lang/invoke/MethodHandle" ∧ y_L_number.cls ≠ "java/lang/invoke/VarHandle" ∧ (parseMethodDescriptor y_L_number.desc).map (fun d => d.parameters.length) = some 2 := by decide +kernel
abbrev b_L_law : ByteArray := code
abbrev y_L_law : MethodName := ⟨"ValueAlgebraLaw", "law", "([I)Z"⟩
theorem hy_L_law : y_L_law.cls ≠ "java/lang/invoke/MethodHandle" ∧ y_L_law.cls ≠ "java/lang/invoke/VarHandle" ∧ (parseMethodDescriptor y_L_law.desc).map (fun d => d.parameters.length) = some 1 := by decide +kernel
theorem tw_90 : (Jvm.Cond.initialized "ValueAlgebraLaw") ∈ gk_T := gk_T_mem (List.mem_append_right _ (List.mem_append_right _ (List.mem_append_left _ (List.mem_of_getElem? (i := 0) rfl)))) rfl
theorem tw_125 : (Jvm.Cond.classLink "ValueAlgebraLaw" (8 : Nat) "ValueAlgebra") ∈ gk_T := gk_T_mem (List.mem_append_right _ (List.mem_append_right _ (List.mem_append_left _ (List.mem_of_getElem? (i := 35) rfl)))) rfl
theorem tw_126 : (Jvm.Cond.instantiable "ValueAlgebra" (4 : Nat)) ∈ gk_T := gk_T_mem (List.mem_append_right _ (List.mem_append_right _ (List.mem_append_left _ (List.mem_of_getElem? (i := 36) rfl)))) rfl
theorem tw_127 : (Jvm.Cond.methodLink "ValueAlgebraLaw" (61 : Nat) ({ cls := "ValueAlgebra", name := "<init>", desc := "()V" } : Jvm.MethodName)) ∈ gk_T := gk_T_mem (List.mem_append_right _ (List.mem_append_right _ (List.mem_append_left _ (List.mem_of_getElem? (i := 37) rfl)))) rfl
theorem tw_128 : (Jvm.Cond.instanceMethod ({ cls := "ValueAlgebra", name := "<init>", desc := "()V" } : Jvm.MethodName)) ∈ gk_T := gk_T_mem (List.mem_append_right _ (List.mem_append_right _ (List.mem_append_left _ (List.mem_of_getElem? (i := 38) rfl)))) rfl
theorem tw_304 : (Jvm.Cond.methodLink "ValueAlgebraLaw" (105 : Nat) ({ cls := "ValueAlgebra", name := "size", desc := "()I" } : Jvm.MethodName)) ∈ gk_T := gk_T_mem (List.mem_append_right _ (List.mem_append_right _ (List.mem_append_left _ (List.mem_of_getElem? (i := 214) rfl)))) rfl
theorem tw_305 : (Jvm.Cond.instanceMethod ({ cls := "ValueAlgebra", name := "size", desc := "()I" } : Jvm.MethodName)) ∈ gk_T := gk_T_mem (List.mem_append_right _ (List.mem_append_right _ (List.mem_append_left _ (List.mem_of_getElem? (i := 215) rfl)))) rfl
theorem tw_306 : (Jvm.Cond.selects "ValueAlgebra" ({ cls := "ValueAlgebra", name := "size", desc := "()I" } : Jvm.MethodName) ({ cls := "ValueAlgebra", name := "size", desc := "()I" } : Jvm.MethodName)) ∈ gk_T := gk_T_mem (List.mem_append_right _ (List.mem_append_right _ (List.mem_append_left _ (List.mem_of_getElem? (i := 216) rfl)))) rfl
theorem tw_308 : (Jvm.Cond.methodLink "ValueAlgebraLaw" (67 : Nat) ({ cls := "ValueAlgebraLaw", name := "number", desc := "(LValueAlgebra;D)I" } : Jvm.MethodName)) ∈ gk_T := gk_T_mem (List.mem_append_right _ (List.mem_append_right _ (List.mem_append_left _ (List.mem_of_getElem? (i := 218) rfl)))) rfl
theorem tw_309 : (Jvm.Cond.static ({ cls := "ValueAlgebraLaw", name := "number", desc := "(LValueAlgebra;D)I" } : Jvm.MethodName)) ∈ gk_T := gk_T_mem (List.mem_append_right _ (List.mem_append_right _ (List.mem_append_left _ (List.mem_of_getElem? (i := 219) rfl)))) rfl
theorem tw_311 : (Jvm.Cond.classLink "ValueAlgebraLaw" (13 : Nat) "java/lang/IllegalStateException") ∈ gk_T := gk_T_mem (List.mem_append_right _ (List.mem_append_right _ (List.mem_append_left _ (List.mem_of_getElem? (i := 221) rfl)))) rfl
theorem tw_312 : (Jvm.Cond.methodLink "ValueAlgebraLaw" (7 : Nat) ({ cls := "ValueAlgebra", name := "number", desc := "(D)V" } : Jvm.MethodName)) ∈ gk_T := gk_T_mem (List.mem_append_right _ (List.mem_append_right _ (List.mem_append_left _ (List.mem_of_getElem? (i := 222) rfl)))) rfl
theorem tw_313 : (Jvm.Cond.instanceMethod ({ cls := "ValueAlgebra", name := "number", desc := "(D)V" } : Jvm.MethodName)) ∈ gk_T := gk_T_mem (List.mem_append_right _ (List.mem_append_right _ (List.mem_append_left _ (List.mem_of_getElem? (i := 223) rfl)))) rfl
theorem tw_314 : (Jvm.Cond.selects "ValueAlgebra" ({ cls := "ValueAlgebra", name := "number", desc := "(D)V" } : Jvm.MethodName) ({ cls := "ValueAlgebra", name := "number", desc := "(D)V" } : Jvm.MethodName)) ∈ gk_T := gk_T_mem (List.mem_append_right _ (List.mem_append_right _ (List.mem_append_left _ (List.mem_of_getElem? (i := 224) rfl)))) rfl
theorem tw_397 : (Jvm.Cond.methodLink "ValueAlgebraLaw" (77 : Nat) ({ cls := "ValueAlgebraLaw", name := "type", desc := "(LValueAlgebra;I[J)I" } : Jvm.MethodName)) ∈ gk_T := gk_T_mem (List.mem_append_right _ (List.mem_append_right _ (List.mem_append_right _ (List.mem_append_left _ (List.mem_of_getElem? (i := 67) rfl))))) rfl
theorem tw_398 : (Jvm.Cond.static ({ cls := "ValueAlgebraLaw", name := "type", desc := "(LValueAlgebra;I[J)I" } : Jvm.MethodName)) ∈ gk_T := gk_T_mem (List.mem_append_right _ (List.mem_append_right _ (List.mem_append_right _ (List.mem_append_left _ (List.mem_of_getElem? (i := 68) rfl))))) rfl
theorem tw_400 : (Jvm.Cond.classLink "ValueAlgebraLaw" (19 : Nat) "java/lang/IllegalArgumentException") ∈ gk_T := gk_T_mem (List.mem_append_right _ (List.mem_append_right _ (List.mem_append_right _ (List.mem_append_left _ (List.mem_of_getElem? (i := 70) rfl))))) rfl
theorem tw_401 : (Jvm.Cond.methodLink "ValueAlgebraLaw" (15 : Nat) ({ cls := "ValueAlgebra", name := "type", desc := "(I)I" } : Jvm.MethodName)) ∈ gk_T := gk_T_mem (List.mem_append_right _ (List.mem_append_right _ (List.mem_append_right _ (List.mem_append_left _ (List.mem_of_getElem? (i := 71) rfl))))) rfl
theorem tw_402 : (Jvm.Cond.instanceMethod ({ cls := "ValueAlgebra", name := "type", desc := "(I)I" } : Jvm.MethodName)) ∈ gk_T := gk_T_mem (List.mem_append_right _ (List.mem_append_right _ (List.mem_append_right _ (List.mem_append_left _ (List.mem_of_getElem? (i := 72) rfl))))) rfl
theorem tw_403 : (Jvm.Cond.selects "ValueAlgebra" ({ cls := "ValueAlgebra", name := "type", desc := "(I)I" } : Jvm.MethodName) ({ cls := "ValueAlgebra", name := "type", desc := "(I)I" } : Jvm.MethodName)) ∈ gk_T := gk_T_mem (List.mem_append_right _ (List.mem_append_right _ (List.mem_append_right _ (List.mem_append_left _ (List.mem_of_getElem? (i := 73) rfl))))) rfl
theorem tw_524 : (Jvm.Cond.methodLink "ValueAlgebraLaw" (81 : Nat) ({ cls := "ValueAlgebraLaw", name := "text", desc := "(LValueAlgebra;)I" } : Jvm.MethodName)) ∈ gk_T := gk_T_mem (List.mem_append_right _ (List.mem_append_right _ (List.mem_append_right _ (List.mem_append_left _ (List.mem_of_getElem? (i := 194) rfl))))) rfl
theorem tw_525 : (Jvm.Cond.static ({ cls := "ValueAlgebraLaw", name := "text", desc := "(LValueAlgebra;)I" } : Jvm.MethodName)) ∈ gk_T := gk_T_mem (List.mem_append_right _ (List.mem_append_right _ (List.mem_append_right _ (List.mem_append_left _ (List.mem_of_getElem? (i := 195) rfl))))) rfl
theorem tw_527 : (Jvm.Cond.methodLink "ValueAlgebraLaw" (21 : Nat) ({ cls := "ValueAlgebra", name := "text", desc := "()V" } : Jvm.MethodName)) ∈ gk_T := gk_T_mem (List.mem_append_right _ (List.mem_append_right _ (List.mem_append_right _ (List.mem_append_left _ (List.mem_of_getElem? (i := 197) rfl))))) rfl
theorem tw_528 : (Jvm.Cond.instanceMethod ({ cls := "ValueAlgebra", name := "text", desc := "()V" } : Jvm.MethodName)) ∈ gk_T := gk_T_mem (List.mem_append_right _ (List.mem_append_right _ (List.mem_append_right _ (List.mem_append_left _ (List.mem_of_getElem? (i := 198) rfl))))) rfl
theorem tw_529 : (Jvm.Cond.selects "ValueAlgebra" ({ cls := "ValueAlgebra", name := "text", desc := "()V" } : Jvm.MethodName) ({ cls := "ValueAlgebra", name := "text", desc := "()V" } : Jvm.MethodName)) ∈ gk_T := gk_T_mem (List.mem_append_right _ (List.mem_append_right _ (List.mem_append_right _ (List.mem_append_left _ (List.mem_of_getElem? (i := 199) rfl))))) rfl
theorem tw_730 : (Jvm.Cond.methodLink "ValueAlgebraLaw" (85 : Nat) ({ cls := "ValueAlgebraLaw", name := "plain", desc := "(LValueAlgebra;II)I" } : Jvm.MethodName)) ∈ gk_T := gk_T_mem (List.mem_append_right _ (List.mem_append_right _ (List.mem_append_right _ (List.mem_append_right _ (List.mem_append_left _ (List.mem_of_getElem? (i := 160) rfl)))))) rfl
theorem tw_731 : (Jvm.Cond.static ({ cls := "ValueAlgebraLaw", name := "plain", desc := "(LValueAlgebra;II)I" } : Jvm.MethodName)) ∈ gk_T := gk_T_mem (List.mem_append_right _ (List.mem_append_right _ (List.mem_append_right _ (List.mem_append_right _ (List.mem_append_left _ (List.mem_of_getElem? (i := 161) rfl)))))) rfl
theorem tw_733 : (Jvm.Cond.methodLink "ValueAlgebraLaw" (24 : Nat) ({ cls := "ValueAlgebra", name := "plain", desc := "(II)V" } : Jvm.MethodName)) ∈ gk_T := gk_T_mem (List.mem_append_right _ (List.mem_append_right _ (List.mem_append_right _ (List.mem_append_right _ (List.mem_append_left _ (List.mem_of_getElem? (i := 163) rfl)))))) rfl
theorem tw_734 : (Jvm.Cond.instanceMethod ({ cls := "ValueAlgebra", name := "plain", desc := "(II)V" } : Jvm.MethodName)) ∈ gk_T := gk_T_mem (List.mem_append_right _ (List.mem_append_right _ (List.mem_append_right _ (List.mem_append_right _ (List.mem_append_left _ (List.mem_of_getElem? (i := 164) rfl)))))) rfl
theorem tw_735 : (Jvm.Cond.selects "ValueAlgebra" ({ cls := "ValueAlgebra", name := "plain", desc := "(II)V" } : Jvm.MethodName) ({ cls := "ValueAlgebra", name := "plain", desc := "(II)V" } : Jvm.MethodName)) ∈ gk_T := gk_T_mem (List.mem_append_right _ (List.mem_append_right _ (List.mem_append_right _ (List.mem_append_right _ (List.mem_append_left _ (List.mem_of_getElem? (i := 165) rfl)))))) rfl
theorem tw_743 : (Jvm.Cond.methodLink "ValueAlgebraLaw" (89 : Nat) ({ cls := "ValueAlgebraLaw", name := "array", desc := "(LValueAlgebra;II)I" } : Jvm.MethodName)) ∈ gk_T := gk_T_mem (List.mem_append_right _ (List.mem_append_right _ (List.mem_append_right _ (List.mem_append_right _ (List.mem_append_left _ (List.mem_of_getElem? (i := 173) rfl)))))) rfl
theorem tw_744 : (Jvm.Cond.static ({ cls := "ValueAlgebraLaw", name := "array", desc := "(LValueAlgebra;II)I" } : Jvm.MethodName)) ∈ gk_T := gk_T_mem (List.mem_append_right _ (List.mem_append_right _ (List.mem_append_right _ (List.mem_append_right _ (List.mem_append_left _ (List.mem_of_getElem? (i := 174) rfl)))))) rfl
theorem tw_746 : (Jvm.Cond.methodLink "ValueAlgebraLaw" (28 : Nat) ({ cls := "ValueAlgebra", name := "array", desc := "(II)V" } : Jvm.MethodName)) ∈ gk_T := gk_T_mem (List.mem_append_right _ (List.mem_append_right _ (List.mem_append_right _ (List.mem_append_right _ (List.mem_append_left _ (List.mem_of_getElem? (i := 176) rfl)))))) rfl
theorem tw_747 : (Jvm.Cond.instanceMethod ({ cls := "ValueAlgebra", name := "array", desc := "(II)V" } : Jvm.MethodName)) ∈ gk_T := gk_T_mem (List.mem_append_right _ (List.mem_append_right _ (List.mem_append_right _ (List.mem_append_right _ (List.mem_append_left _ (List.mem_of_getElem? (i := 177) rfl)))))) rfl
theorem tw_748 : (Jvm.Cond.selects "ValueAlgebra" ({ cls := "ValueAlgebra", name := "array", desc := "(II)V" } : Jvm.MethodName) ({ cls := "ValueAlgebra", name := "array", desc := "(II)V" } : Jvm.MethodName)) ∈ gk_T := gk_T_mem (List.mem_append_right _ (List.mem_append_right _ (List.mem_append_right _ (List.mem_append_right _ (List.mem_append_left _ (List.mem_of_getElem? (i := 178) rfl)))))) rfl
theorem tw_760 : (Jvm.Cond.methodLink "ValueAlgebraLaw" (92 : Nat) ({ cls := "ValueAlgebraLaw", name := "operate", desc := "(LValueAlgebra;I)I" } : Jvm.MethodName)) ∈ gk_T := gk_T_mem (List.mem_append_right _ (List.mem_append_right _ (List.mem_append_right _ (List.mem_append_right _ (List.mem_append_left _ (List.mem_of_getElem? (i := 190) rfl)))))) rfl
theorem tw_761 : (Jvm.Cond.static ({ cls := "ValueAlgebraLaw", name := "operate", desc := "(LValueAlgebra;I)I" } : Jvm.MethodName)) ∈ gk_T := gk_T_mem (List.mem_append_right _ (List.mem_append_right _ (List.mem_append_right _ (List.mem_append_right _ (List.mem_append_left _ (List.mem_of_getElem? (i := 191) rfl)))))) rfl
theorem tw_763 : (Jvm.Cond.methodLink "ValueAlgebraLaw" (31 : Nat) ({ cls := "ValueAlgebra", name := "operate", desc := "(I)V" } : Jvm.MethodName)) ∈ gk_T := gk_T_mem (List.mem_append_right _ (List.mem_append_right _ (List.mem_append_right _ (List.mem_append_right _ (List.mem_append_left _ (List.mem_of_getElem? (i := 193) rfl)))))) rfl
theorem tw_764 : (Jvm.Cond.instanceMethod ({ cls := "ValueAlgebra", name := "operate", desc := "(I)V" } : Jvm.MethodName)) ∈ gk_T := gk_T_mem (List.mem_append_right _ (List.mem_append_right _ (List.mem_append_right _ (List.mem_append_right _ (List.mem_append_left _ (List.mem_of_getElem? (i := 194) rfl)))))) rfl
theorem tw_765 : (Jvm.Cond.selects "ValueAlgebra" ({ cls := "ValueAlgebra", name := "operate", desc := "(I)V" } : Jvm.MethodName) ({ cls := "ValueAlgebra", name := "operate", desc := "(I)V" } : Jvm.MethodName)) ∈ gk_T := gk_T_mem (List.mem_append_right _ (List.mem_append_right _ (List.mem_append_right _ (List.mem_append_right _ (List.mem_append_left _ (List.mem_of_getElem? (i := 195) rfl)))))) rfl
theorem tw_1010 : (Jvm.Cond.methodLink "ValueAlgebraLaw" (96 : Nat) ({ cls := "ValueAlgebraLaw", name := "call", desc := "(LValueAlgebra;II)I" } : Jvm.MethodName)) ∈ gk_T := gk_T_mem (List.mem_append_right _ (List.mem_append_right _ (List.mem_append_right _ (List.mem_append_right _ (List.mem_append_right _ (List.mem_append_left _ (List.mem_of_getElem? (i := 200) rfl))))))) rfl
theorem tw_1011 : (Jvm.Cond.static ({ cls := "ValueAlgebraLaw", name := "call", desc := "(LValueAlgebra;II)I" } : Jvm.MethodName)) ∈ gk_T := gk_T_mem (List.mem_append_right _ (List.mem_append_right _ (List.mem_append_right _ (List.mem_append_right _ (List.mem_append_right _ (List.mem_append_left _ (List.mem_of_getElem? (i := 201) rfl))))))) rfl
theorem tw_1013 : (Jvm.Cond.methodLink "ValueAlgebraLaw" (35 : Nat) ({ cls := "ValueAlgebra", name := "call", desc := "(II)V" } : Jvm.MethodName)) ∈ gk_T := gk_T_mem (List.mem_append_right _ (List.mem_append_right _ (List.mem_append_right _ (List.mem_append_right _ (List.mem_append_right _ (List.mem_append_left _ (List.mem_of_getElem? (i := 203) rfl))))))) rfl
theorem tw_1014 : (Jvm.Cond.instanceMethod ({ cls := "ValueAlgebra", name := "call", desc := "(II)V" } : Jvm.MethodName)) ∈ gk_T := gk_T_mem (List.mem_append_right _ (List.mem_append_right _ (List.mem_append_right _ (List.mem_append_right _ (List.mem_append_right _ (List.mem_append_left _ (List.mem_of_getElem? (i := 204) rfl))))))) rfl
theorem tw_1015 : (Jvm.Cond.selects "ValueAlgebra" ({ cls := "ValueAlgebra", name := "call", desc := "(II)V" } : Jvm.MethodName) ({ cls := "ValueAlgebra", name := "call", desc := "(II)V" } : Jvm.MethodName)) ∈ gk_T := gk_T_mem (List.mem_append_right _ (List.mem_append_right _ (List.mem_append_right _ (List.mem_append_right _ (List.mem_append_right _ (List.mem_append_left _ (List.mem_of_getElem? (i := 205) rfl))))))) rfl
theorem tw_1567 : (Jvm.Cond.methodLink "ValueAlgebraLaw" (99 : Nat) ({ cls := "ValueAlgebraLaw", name := "drop", desc := "(LValueAlgebra;)I" } : Jvm.MethodName)) ∈ gk_T := gk_T_mem (List.mem_append_right _ (List.mem_append_right _ (List.mem_append_right _ (List.mem_append_right _ (List.mem_append_right _ (List.mem_append_right _ (List.mem_append_right _ (List.mem_append_right _ (List.mem_append_left _ (List.mem_of_getElem? (i := 37) rfl)))))))))) rfl
theorem tw_1568 : (Jvm.Cond.static ({ cls := "ValueAlgebraLaw", name := "drop", desc := "(LValueAlgebra;)I" } : Jvm.MethodName)) ∈ gk_T := gk_T_mem (List.mem_append_right _ (List.mem_append_right _ (List.mem_append_right _ (List.mem_append_right _ (List.mem_append_right _ (List.mem_append_right _ (List.mem_append_right _ (List.mem_append_right _ (List.mem_append_left _ (List.mem_of_getElem? (i := 38) rfl)))))))))) rfl
theorem tw_1570 : (Jvm.Cond.methodLink "ValueAlgebraLaw" (38 : Nat) ({ cls := "ValueAlgebra", name := "drop", desc := "()V" } : Jvm.MethodName)) ∈ gk_T := gk_T_mem (List.mem_append_right _ (List.mem_append_right _ (List.mem_append_right _ (List.mem_append_right _ (List.mem_append_right _ (List.mem_append_right _ (List.mem_append_right _ (List.mem_append_right _ (List.mem_append_left _ (List.mem_of_getElem? (i := 40) rfl)))))))))) rfl
theorem tw_1571 : (Jvm.Cond.instanceMethod ({ cls := "ValueAlgebra", name := "drop", desc := "()V" } : Jvm.MethodName)) ∈ gk_T := gk_T_mem (List.mem_append_right _ (List.mem_append_right _ (List.mem_append_right _ (List.mem_append_right _ (List.mem_append_right _ (List.mem_append_right _ (List.mem_append_right _ (List.mem_append_right _ (List.mem_append_left _ (List.mem_of_getElem? (i := 41) rfl)))))))))) rfl
theorem tw_1572 : (Jvm.Cond.selects "ValueAlgebra" ({ cls := "ValueAlgebra", name := "drop", desc := "()V" } : Jvm.MethodName) ({ cls := "ValueAlgebra", name := "drop", desc := "()V" } : Jvm.MethodName)) ∈ gk_T := gk_T_mem (List.mem_append_right _ (List.mem_append_right _ (List.mem_append_right _ (List.mem_append_right _ (List.mem_append_right _ (List.mem_append_right _ (List.mem_append_right _ (List.mem_append_right _ (List.mem_append_left _ (List.mem_of_getElem? (i := 42) rfl)))))))))) rfl
theorem tw_1575 : (Jvm.Cond.methodLink "ValueAlgebraLaw" (102 : Nat) ({ cls := "ValueAlgebraLaw", name := "again", desc := "(LValueAlgebra;I)I" } : Jvm.MethodName)) ∈ gk_T := gk_T_mem (List.mem_append_right _ (List.mem_append_right _ (List.mem_append_right _ (List.mem_append_right _ (List.mem_append_right _ (List.mem_append_right _ (List.mem_append_right _ (List.mem_append_right _ (List.mem_append_left _ (List.mem_of_getElem? (i := 45) rfl)))))))))) rfl
theorem tw_1576 : (Jvm.Cond.static ({ cls := "ValueAlgebraLaw", name := "again", desc := "(LValueAlgebra;I)I" } : Jvm.MethodName)) ∈ gk_T := gk_T_mem (List.mem_append_right _ (List.mem_append_right _ (List.mem_append_right _ (List.mem_append_right _ (List.mem_append_right _ (List.mem_append_right _ (List.mem_append_right _ (List.mem_append_right _ (List.mem_append_left _ (List.mem_of_getElem? (i := 46) rfl)))))))))) rfl
theorem tw_1578 : (Jvm.Cond.classLink "ValueAlgebraLaw" (44 : Nat) "java/lang/IndexOutOfBoundsException") ∈ gk_T := gk_T_mem (List.mem_append_right _ (List.mem_append_right _ (List.mem_append_right _ (List.mem_append_right _ (List.mem_append_right _ (List.mem_append_right _ (List.mem_append_right _ (List.mem_append_right _ (List.mem_append_left _ (List.mem_of_getElem? (i := 48) rfl)))))))))) rfl
theorem tw_1579 : (Jvm.Cond.methodLink "ValueAlgebraLaw" (41 : Nat) ({ cls := "ValueAlgebra", name := "again", desc := "(I)V" } : Jvm.MethodName)) ∈ gk_T := gk_T_mem (List.mem_append_right _ (List.mem_append_right _ (List.mem_append_right _ (List.mem_append_right _ (List.mem_append_right _ (List.mem_append_right _ (List.mem_append_right _ (List.mem_append_right _ (List.mem_append_left _ (List.mem_of_getElem? (i := 49) rfl)))))))))) rfl
theorem tw_1580 : (Jvm.Cond.instanceMethod ({ cls := "ValueAlgebra", name := "again", desc := "(I)V" } : Jvm.MethodName)) ∈ gk_T := gk_T_mem (List.mem_append_right _ (List.mem_append_right _ (List.mem_append_right _ (List.mem_append_right _ (List.mem_append_right _ (List.mem_append_right _ (List.mem_append_right _ (List.mem_append_right _ (List.mem_append_left _ (List.mem_of_getElem? (i := 50) rfl)))))))))) rfl
theorem tw_1581 : (Jvm.Cond.selects "ValueAlgebra" ({ cls := "ValueAlgebra", name := "again", desc := "(I)V" } : Jvm.MethodName) ({ cls := "ValueAlgebra", name := "again", desc := "(I)V" } : Jvm.MethodName)) ∈ gk_T := gk_T_mem (List.mem_append_right _ (List.mem_append_right _ (List.mem_append_right _ (List.mem_append_right _ (List.mem_append_right _ (List.mem_append_right _ (List.mem_append_right _ (List.mem_append_right _ (List.mem_append_left _ (List.mem_of_getElem? (i := 51) rfl)))))))))) rfl
theorem tw_1600 : (Jvm.Cond.methodLink "ValueAlgebraLaw" (109 : Nat) ({ cls := "ValueAlgebraLaw", name := "about", desc := "(LValueAlgebra;II[J)I" } : Jvm.MethodName)) ∈ gk_T := gk_T_mem (List.mem_append_right _ (List.mem_append_right _ (List.mem_append_right _ (List.mem_append_right _ (List.mem_append_right _ (List.mem_append_right _ (List.mem_append_right _ (List.mem_append_right _ (List.mem_append_left _ (List.mem_of_getElem? (i := 70) rfl)))))))))) rfl
theorem tw_1601 : (Jvm.Cond.static ({ cls := "ValueAlgebraLaw", name := "about", desc := "(LValueAlgebra;II[J)I" } : Jvm.MethodName)) ∈ gk_T := gk_T_mem (List.mem_append_right _ (List.mem_append_right _ (List.mem_append_right _ (List.mem_append_right _ (List.mem_append_right _ (List.mem_append_right _ (List.mem_append_right _ (List.mem_append_right _ (List.mem_append_left _ (List.mem_of_getElem? (i := 71) rfl)))))))))) rfl
theorem tw_1603 : (Jvm.Cond.methodLink "ValueAlgebraLaw" (46 : Nat) ({ cls := "ValueAlgebra", name := "about", desc := "(II)I" } : Jvm.MethodName)) ∈ gk_T := gk_T_mem (List.mem_append_right _ (List.mem_append_right _ (List.mem_append_right _ (List.mem_append_right _ (List.mem_append_right _ (List.mem_append_right _ (List.mem_append_right _ (List.mem_append_right _ (List.mem_append_left _ (List.mem_of_getElem? (i := 73) rfl)))))))))) rfl
theorem tw_1604 : (Jvm.Cond.instanceMethod ({ cls := "ValueAlgebra", name := "about", desc := "(II)I" } : Jvm.MethodName)) ∈ gk_T := gk_T_mem (List.mem_append_right _ (List.mem_append_right _ (List.mem_append_right _ (List.mem_append_right _ (List.mem_append_right _ (List.mem_append_right _ (List.mem_append_right _ (List.mem_append_right _ (List.mem_append_left _ (List.mem_of_getElem? (i := 74) rfl)))))))))) rfl
theorem tw_1605 : (Jvm.Cond.selects "ValueAlgebra" ({ cls := "ValueAlgebra", name := "about", desc := "(II)I" } : Jvm.MethodName) ({ cls := "ValueAlgebra", name := "about", desc := "(II)I" } : Jvm.MethodName)) ∈ gk_T := gk_T_mem (List.mem_append_right _ (List.mem_append_right _ (List.mem_append_right _ (List.mem_append_right _ (List.mem_append_right _ (List.mem_append_right _ (List.mem_append_right _ (List.mem_append_right _ (List.mem_append_left _ (List.mem_of_getElem? (i := 75) rfl)))))))))) rfl
theorem tw_1608 : (Jvm.Cond.methodLink "ValueAlgebraLaw" (113 : Nat) ({ cls := "ValueAlgebraLaw", name := "cell", desc := "(LValueAlgebra;IIII[J)I" } : Jvm.MethodName)) ∈ gk_T := gk_T_mem (List.mem_append_right _ (List.mem_append_right _ (List.mem_append_right _ (List.mem_append_right _ (List.mem_append_right _ (List.mem_append_right _ (List.mem_append_right _ (List.mem_append_right _ (List.mem_append_left _ (List.mem_of_getElem? (i := 78) rfl)))))))))) rfl
theorem tw_1609 : (Jvm.Cond.static ({ cls := "ValueAlgebraLaw", name := "cell", desc := "(LValueAlgebra;IIII[J)I" } : Jvm.MethodName)) ∈ gk_T := gk_T_mem (List.mem_append_right _ (List.mem_append_right _ (List.mem_append_right _ (List.mem_append_right _ (List.mem_append_right _ (List.mem_append_right _ (List.mem_append_right _ (List.mem_append_right _ (List.mem_append_left _ (List.mem_of_getElem? (i := 79) rfl)))))))))) rfl
theorem tw_1611 : (Jvm.Cond.methodLink "ValueAlgebraLaw" (50 : Nat) ({ cls := "ValueAlgebra", name := "cell", desc := "(IIII)I" } : Jvm.MethodName)) ∈ gk_T := gk_T_mem (List.mem_append_right _ (List.mem_append_right _ (List.mem_append_right _ (List.mem_append_right _ (List.mem_append_right _ (List.mem_append_right _ (List.mem_append_right _ (List.mem_append_right _ (List.mem_append_left _ (List.mem_of_getElem? (i := 81) rfl)))))))))) rfl
theorem tw_1612 : (Jvm.Cond.instanceMethod ({ cls := "ValueAlgebra", name := "cell", desc := "(IIII)I" } : Jvm.MethodName)) ∈ gk_T := gk_T_mem (List.mem_append_right _ (List.mem_append_right _ (List.mem_append_right _ (List.mem_append_right _ (List.mem_append_right _ (List.mem_append_right _ (List.mem_append_right _ (List.mem_append_right _ (List.mem_append_left _ (List.mem_of_getElem? (i := 82) rfl)))))))))) rfl
theorem tw_1613 : (Jvm.Cond.selects "ValueAlgebra" ({ cls := "ValueAlgebra", name := "cell", desc := "(IIII)I" } : Jvm.MethodName) ({ cls := "ValueAlgebra", name := "cell", desc := "(IIII)I" } : Jvm.MethodName)) ∈ gk_T := gk_T_mem (List.mem_append_right _ (List.mem_append_right _ (List.mem_append_right _ (List.mem_append_right _ (List.mem_append_right _ (List.mem_append_right _ (List.mem_append_right _ (List.mem_append_right _ (List.mem_append_left _ (List.mem_of_getElem? (i := 83) rfl)))))))))) rfl
theorem tw_1623 : (Jvm.Cond.methodLink "ValueAlgebraLaw" (117 : Nat) ({ cls := "ValueAlgebraLaw", name := "value", desc := "(LValueAlgebra;III[D)I" } : Jvm.MethodName)) ∈ gk_T := gk_T_mem (List.mem_append_right _ (List.mem_append_right _ (List.mem_append_right _ (List.mem_append_right _ (List.mem_append_right _ (List.mem_append_right _ (List.mem_append_right _ (List.mem_append_right _ (List.mem_append_left _ (List.mem_of_getElem? (i := 93) rfl)))))))))) rfl
theorem tw_1624 : (Jvm.Cond.static ({ cls := "ValueAlgebraLaw", name := "value", desc := "(LValueAlgebra;III[D)I" } : Jvm.MethodName)) ∈ gk_T := gk_T_mem (List.mem_append_right _ (List.mem_append_right _ (List.mem_append_right _ (List.mem_append_right _ (List.mem_append_right _ (List.mem_append_right _ (List.mem_append_right _ (List.mem_append_right _ (List.mem_append_left _ (List.mem_of_getElem? (i := 94) rfl)))))))))) rfl
theorem tw_1626 : (Jvm.Cond.methodLink "ValueAlgebraLaw" (54 : Nat) ({ cls := "ValueAlgebra", name := "value", desc := "(III)D" } : Jvm.MethodName)) ∈ gk_T := gk_T_mem (List.mem_append_right _ (List.mem_append_right _ (List.mem_append_right _ (List.mem_append_right _ (List.mem_append_right _ (List.mem_append_right _ (List.mem_append_right _ (List.mem_append_right _ (List.mem_append_left _ (List.mem_of_getElem? (i := 96) rfl)))))))))) rfl
theorem tw_1627 : (Jvm.Cond.instanceMethod ({ cls := "ValueAlgebra", name := "value", desc := "(III)D" } : Jvm.MethodName)) ∈ gk_T := gk_T_mem (List.mem_append_right _ (List.mem_append_right _ (List.mem_append_right _ (List.mem_append_right _ (List.mem_append_right _ (List.mem_append_right _ (List.mem_append_right _ (List.mem_append_right _ (List.mem_append_left _ (List.mem_of_getElem? (i := 97) rfl)))))))))) rfl
theorem tw_1628 : (Jvm.Cond.selects "ValueAlgebra" ({ cls := "ValueAlgebra", name := "value", desc := "(III)D" } : Jvm.MethodName) ({ cls := "ValueAlgebra", name := "value", desc := "(III)D" } : Jvm.MethodName)) ∈ gk_T := gk_T_mem (List.mem_append_right _ (List.mem_append_right _ (List.mem_append_right _ (List.mem_append_right _ (List.mem_append_right _ (List.mem_append_right _ (List.mem_append_right _ (List.mem_append_right _ (List.mem_append_left _ (List.mem_of_getElem? (i := 98) rfl)))))))))) rfl
theorem tw_1630 : (Jvm.Cond.methodLink "ValueAlgebraLaw" (121 : Nat) ({ cls := "ValueAlgebraLaw", name := "letter", desc := "(LValueAlgebra;IIII[J)I" } : Jvm.MethodName)) ∈ gk_T := gk_T_mem (List.mem_append_right _ (List.mem_append_right _ (List.mem_append_right _ (List.mem_append_right _ (List.mem_append_right _ (List.mem_append_right _ (List.mem_append_right _ (List.mem_append_right _ (List.mem_append_left _ (List.mem_of_getElem? (i := 100) rfl)))))))))) rfl
theorem tw_1631 : (Jvm.Cond.static ({ cls := "ValueAlgebraLaw", name := "letter", desc := "(LValueAlgebra;IIII[J)I" } : Jvm.MethodName)) ∈ gk_T := gk_T_mem (List.mem_append_right _ (List.mem_append_right _ (List.mem_append_right _ (List.mem_append_right _ (List.mem_append_right _ (List.mem_append_right _ (List.mem_append_right _ (List.mem_append_right _ (List.mem_append_left _ (List.mem_of_getElem? (i := 101) rfl)))))))))) rfl
theorem tw_1633 : (Jvm.Cond.methodLink "ValueAlgebraLaw" (58 : Nat) ({ cls := "ValueAlgebra", name := "letter", desc := "(IIII)I" } : Jvm.MethodName)) ∈ gk_T := gk_T_mem (List.mem_append_right _ (List.mem_append_right _ (List.mem_append_right _ (List.mem_append_right _ (List.mem_append_right _ (List.mem_append_right _ (List.mem_append_right _ (List.mem_append_right _ (List.mem_append_left _ (List.mem_of_getElem? (i := 103) rfl)))))))))) rfl
theorem tw_1634 : (Jvm.Cond.instanceMethod ({ cls := "ValueAlgebra", name := "letter", desc := "(IIII)I" } : Jvm.MethodName)) ∈ gk_T := gk_T_mem (List.mem_append_right _ (List.mem_append_right _ (List.mem_append_right _ (List.mem_append_right _ (List.mem_append_right _ (List.mem_append_right _ (List.mem_append_right _ (List.mem_append_right _ (List.mem_append_left _ (List.mem_of_getElem? (i := 104) rfl)))))))))) rfl
theorem tw_1635 : (Jvm.Cond.selects "ValueAlgebra" ({ cls := "ValueAlgebra", name := "letter", desc := "(IIII)I" } : Jvm.MethodName) ({ cls := "ValueAlgebra", name := "letter", desc := "(IIII)I" } : Jvm.MethodName)) ∈ gk_T := gk_T_mem (List.mem_append_right _ (List.mem_append_right _ (List.mem_append_right _ (List.mem_append_right _ (List.mem_append_right _ (List.mem_append_right _ (List.mem_append_right _ (List.mem_append_right _ (List.mem_append_left _ (List.mem_of_getElem? (i := 105) rfl)))))))))) rfl
theorem tw_1638 : (Jvm.Cond.classLink "ValueAlgebraLaw" (62 : Nat) "ValueAlgebraModel") ∈ gk_T := gk_T_mem (List.mem_append_right _ (List.mem_append_right _ (List.mem_append_right _ (List.mem_append_right _ (List.mem_append_right _ (List.mem_append_right _ (List.mem_append_right _ (List.mem_append_right _ (List.mem_append_left _ (List.mem_of_getElem? (i := 108) rfl)))))))))) rfl
theorem tw_1639 : (Jvm.Cond.instantiable "ValueAlgebraModel" (25 : Nat)) ∈ gk_T := gk_T_mem (List.mem_append_right _ (List.mem_append_right _ (List.mem_append_right _ (List.mem_append_right _ (List.mem_append_right _ (List.mem_append_right _ (List.mem_append_right _ (List.mem_append_right _ (List.mem_append_left _ (List.mem_of_getElem? (i := 109) rfl)))))))))) rfl
theorem tw_1640 : (Jvm.Cond.methodLink "ValueAlgebraLaw" (64 : Nat) ({ cls := "ValueAlgebraModel", name := "<init>", desc := "()V" } : Jvm.MethodName)) ∈ gk_T := gk_T_mem (List.mem_append_right _ (List.mem_append_right _ (List.mem_append_right _ (List.mem_append_right _ (List.mem_append_right _ (List.mem_append_right _ (List.mem_append_right _ (List.mem_append_right _ (List.mem_append_left _ (List.mem_of_getElem? (i := 110) rfl)))))))))) rfl
theorem tw_1641 : (Jvm.Cond.instanceMethod ({ cls := "ValueAlgebraModel", name := "<init>", desc := "()V" } : Jvm.MethodName)) ∈ gk_T := gk_T_mem (List.mem_append_right _ (List.mem_append_right _ (List.mem_append_right _ (List.mem_append_right _ (List.mem_append_right _ (List.mem_append_right _ (List.mem_append_right _ (List.mem_append_right _ (List.mem_append_left _ (List.mem_of_getElem? (i := 111) rfl)))))))))) rfl
theorem tw_1721 : (Jvm.Cond.methodLink "ValueAlgebraLaw" (73 : Nat) ({ cls := "ValueAlgebraModel", name := "thrown", desc := "()I" } : Jvm.MethodName)) ∈ gk_T := gk_T_mem (List.mem_append_right _ (List.mem_append_right _ (List.mem_append_right _ (List.mem_append_right _ (List.mem_append_right _ (List.mem_append_right _ (List.mem_append_right _ (List.mem_append_right _ (List.mem_append_left _ (List.mem_of_getElem? (i := 191) rfl)))))))))) rfl
theorem tw_1722 : (Jvm.Cond.instanceMethod ({ cls := "ValueAlgebraModel", name := "thrown", desc := "()I" } : Jvm.MethodName)) ∈ gk_T := gk_T_mem (List.mem_append_right _ (List.mem_append_right _ (List.mem_append_right _ (List.mem_append_right _ (List.mem_append_right _ (List.mem_append_right _ (List.mem_append_right _ (List.mem_append_right _ (List.mem_append_left _ (List.mem_of_getElem? (i := 192) rfl)))))))))) rfl
theorem tw_1723 : (Jvm.Cond.selects "ValueAlgebraModel" ({ cls := "ValueAlgebraModel", name := "thrown", desc := "()I" } : Jvm.MethodName) ({ cls := "ValueAlgebraModel", name := "thrown", desc := "()I" } : Jvm.MethodName)) ∈ gk_T := gk_T_mem (List.mem_append_right _ (List.mem_append_right _ (List.mem_append_right _ (List.mem_append_right _ (List.mem_append_right _ (List.mem_append_right _ (List.mem_append_right _ (List.mem_append_right _ (List.mem_append_left _ (List.mem_of_getElem? (i := 193) rfl)))))))))) rfl
theorem tw_1725 : (Jvm.Cond.methodLink "ValueAlgebraLaw" (72 : Nat) ({ cls := "ValueAlgebraModel", name := "number", desc := "(D)V" } : Jvm.MethodName)) ∈ gk_T := gk_T_mem (List.mem_append_right _ (List.mem_append_right _ (List.mem_append_right _ (List.mem_append_right _ (List.mem_append_right _ (List.mem_append_right _ (List.mem_append_right _ (List.mem_append_right _ (List.mem_append_left _ (List.mem_of_getElem? (i := 195) rfl)))))))))) rfl
theorem tw_1726 : (Jvm.Cond.instanceMethod ({ cls := "ValueAlgebraModel", name := "number", desc := "(D)V" } : Jvm.MethodName)) ∈ gk_T := gk_T_mem (List.mem_append_right _ (List.mem_append_right _ (List.mem_append_right _ (List.mem_append_right _ (List.mem_append_right _ (List.mem_append_right _ (List.mem_append_right _ (List.mem_append_right _ (List.mem_append_left _ (List.mem_of_getElem? (i := 196) rfl)))))))))) rfl
theorem tw_1727 : (Jvm.Cond.selects "ValueAlgebraModel" ({ cls := "ValueAlgebraModel", name := "number", desc := "(D)V" } : Jvm.MethodName) ({ cls := "ValueAlgebraModel", name := "number", desc := "(D)V" } : Jvm.MethodName)) ∈ gk_T := gk_T_mem (List.mem_append_right _ (List.mem_append_right _ (List.mem_append_right _ (List.mem_append_right _ (List.mem_append_right _ (List.mem_append_right _ (List.mem_append_right _ (List.mem_append_right _ (List.mem_append_left _ (List.mem_of_getElem? (i := 197) rfl)))))))))) rfl
theorem tw_1737 : (Jvm.Cond.methodLink "ValueAlgebraLaw" (80 : Nat) ({ cls := "ValueAlgebraModel", name := "type", desc := "(I)I" } : Jvm.MethodName)) ∈ gk_T := gk_T_mem (List.mem_append_right _ (List.mem_append_right _ (List.mem_append_right _ (List.mem_append_right _ (List.mem_append_right _ (List.mem_append_right _ (List.mem_append_right _ (List.mem_append_right _ (List.mem_append_left _ (List.mem_of_getElem? (i := 207) rfl)))))))))) rfl
theorem tw_1738 : (Jvm.Cond.instanceMethod ({ cls := "ValueAlgebraModel", name := "type", desc := "(I)I" } : Jvm.MethodName)) ∈ gk_T := gk_T_mem (List.mem_append_right _ (List.mem_append_right _ (List.mem_append_right _ (List.mem_append_right _ (List.mem_append_right _ (List.mem_append_right _ (List.mem_append_right _ (List.mem_append_right _ (List.mem_append_left _ (List.mem_of_getElem? (i := 208) rfl)))))))))) rfl
theorem tw_1739 : (Jvm.Cond.selects "ValueAlgebraModel" ({ cls := "ValueAlgebraModel", name := "type", desc := "(I)I" } : Jvm.MethodName) ({ cls := "ValueAlgebraModel", name := "type", desc := "(I)I" } : Jvm.MethodName)) ∈ gk_T := gk_T_mem (List.mem_append_right _ (List.mem_append_right _ (List.mem_append_right _ (List.mem_append_right _ (List.mem_append_right _ (List.mem_append_right _ (List.mem_append_right _ (List.mem_append_right _ (List.mem_append_left _ (List.mem_of_getElem? (i := 209) rfl)))))))))) rfl
theorem tw_1741 : (Jvm.Cond.methodLink "ValueAlgebraLaw" (84 : Nat) ({ cls := "ValueAlgebraModel", name := "text", desc := "()V" } : Jvm.MethodName)) ∈ gk_T := gk_T_mem (List.mem_append_right _ (List.mem_append_right _ (List.mem_append_right _ (List.mem_append_right _ (List.mem_append_right _ (List.mem_append_right _ (List.mem_append_right _ (List.mem_append_right _ (List.mem_append_left _ (List.mem_of_getElem? (i := 211) rfl)))))))))) rfl
theorem tw_1742 : (Jvm.Cond.instanceMethod ({ cls := "ValueAlgebraModel", name := "text", desc := "()V" } : Jvm.MethodName)) ∈ gk_T := gk_T_mem (List.mem_append_right _ (List.mem_append_right _ (List.mem_append_right _ (List.mem_append_right _ (List.mem_append_right _ (List.mem_append_right _ (List.mem_append_right _ (List.mem_append_right _ (List.mem_append_left _ (List.mem_of_getElem? (i := 212) rfl)))))))))) rfl
theorem tw_1743 : (Jvm.Cond.selects "ValueAlgebraModel" ({ cls := "ValueAlgebraModel", name := "text", desc := "()V" } : Jvm.MethodName) ({ cls := "ValueAlgebraModel", name := "text", desc := "()V" } : Jvm.MethodName)) ∈ gk_T := gk_T_mem (List.mem_append_right _ (List.mem_append_right _ (List.mem_append_right _ (List.mem_append_right _ (List.mem_append_right _ (List.mem_append_right _ (List.mem_append_right _ (List.mem_append_right _ (List.mem_append_left _ (List.mem_of_getElem? (i := 213) rfl)))))))))) rfl
theorem tw_1745 : (Jvm.Cond.methodLink "ValueAlgebraLaw" (88 : Nat) ({ cls := "ValueAlgebraModel", name := "plain", desc := "(II)V" } : Jvm.MethodName)) ∈ gk_T := gk_T_mem (List.mem_append_right _ (List.mem_append_right _ (List.mem_append_right _ (List.mem_append_right _ (List.mem_append_right _ (List.mem_append_right _ (List.mem_append_right _ (List.mem_append_right _ (List.mem_append_left _ (List.mem_of_getElem? (i := 215) rfl)))))))))) rfl
theorem tw_1746 : (Jvm.Cond.instanceMethod ({ cls := "ValueAlgebraModel", name := "plain", desc := "(II)V" } : Jvm.MethodName)) ∈ gk_T := gk_T_mem (List.mem_append_right _ (List.mem_append_right _ (List.mem_append_right _ (List.mem_append_right _ (List.mem_append_right _ (List.mem_append_right _ (List.mem_append_right _ (List.mem_append_right _ (List.mem_append_left _ (List.mem_of_getElem? (i := 216) rfl)))))))))) rfl
theorem tw_1747 : (Jvm.Cond.selects "ValueAlgebraModel" ({ cls := "ValueAlgebraModel", name := "plain", desc := "(II)V" } : Jvm.MethodName) ({ cls := "ValueAlgebraModel", name := "plain", desc := "(II)V" } : Jvm.MethodName)) ∈ gk_T := gk_T_mem (List.mem_append_right _ (List.mem_append_right _ (List.mem_append_right _ (List.mem_append_right _ (List.mem_append_right _ (List.mem_append_right _ (List.mem_append_right _ (List.mem_append_right _ (List.mem_append_left _ (List.mem_of_getElem? (i := 217) rfl)))))))))) rfl
theorem tw_1749 : (Jvm.Cond.methodLink "ValueAlgebraLaw" (91 : Nat) ({ cls := "ValueAlgebraModel", name := "array", desc := "(II)V" } : Jvm.MethodName)) ∈ gk_T := gk_T_mem (List.mem_append_right _ (List.mem_append_right _ (List.mem_append_right _ (List.mem_append_right _ (List.mem_append_right _ (List.mem_append_right _ (List.mem_append_right _ (List.mem_append_right _ (List.mem_append_left _ (List.mem_of_getElem? (i := 219) rfl)))))))))) rfl
theorem tw_1750 : (Jvm.Cond.instanceMethod ({ cls := "ValueAlgebraModel", name := "array", desc := "(II)V" } : Jvm.MethodName)) ∈ gk_T := gk_T_mem (List.mem_append_right _ (List.mem_append_right _ (List.mem_append_right _ (List.mem_append_right _ (List.mem_append_right _ (List.mem_append_right _ (List.mem_append_right _ (List.mem_append_right _ (List.mem_append_left _ (List.mem_of_getElem? (i := 220) rfl)))))))))) rfl
theorem tw_1751 : (Jvm.Cond.selects "ValueAlgebraModel" ({ cls := "ValueAlgebraModel", name := "array", desc := "(II)V" } : Jvm.MethodName) ({ cls := "ValueAlgebraModel", name := "array", desc := "(II)V" } : Jvm.MethodName)) ∈ gk_T := gk_T_mem (List.mem_append_right _ (List.mem_append_right _ (List.mem_append_right _ (List.mem_append_right _ (List.mem_append_right _ (List.mem_append_right _ (List.mem_append_right _ (List.mem_append_right _ (List.mem_append_left _ (List.mem_of_getElem? (i := 221) rfl)))))))))) rfl
theorem tw_1757 : (Jvm.Cond.methodLink "ValueAlgebraLaw" (101 : Nat) ({ cls := "ValueAlgebraModel", name := "drop", desc := "()V" } : Jvm.MethodName)) ∈ gk_T := gk_T_mem (List.mem_append_right _ (List.mem_append_right _ (List.mem_append_right _ (List.mem_append_right _ (List.mem_append_right _ (List.mem_append_right _ (List.mem_append_right _ (List.mem_append_right _ (List.mem_append_left _ (List.mem_of_getElem? (i := 227) rfl)))))))))) rfl
theorem tw_1758 : (Jvm.Cond.instanceMethod ({ cls := "ValueAlgebraModel", name := "drop", desc := "()V" } : Jvm.MethodName)) ∈ gk_T := gk_T_mem (List.mem_append_right _ (List.mem_append_right _ (List.mem_append_right _ (List.mem_append_right _ (List.mem_append_right _ (List.mem_append_right _ (List.mem_append_right _ (List.mem_append_right _ (List.mem_append_left _ (List.mem_of_getElem? (i := 228) rfl)))))))))) rfl
theorem tw_1759 : (Jvm.Cond.selects "ValueAlgebraModel" ({ cls := "ValueAlgebraModel", name := "drop", desc := "()V" } : Jvm.MethodName) ({ cls := "ValueAlgebraModel", name := "drop", desc := "()V" } : Jvm.MethodName)) ∈ gk_T := gk_T_mem (List.mem_append_right _ (List.mem_append_right _ (List.mem_append_right _ (List.mem_append_right _ (List.mem_append_right _ (List.mem_append_right _ (List.mem_append_right _ (List.mem_append_right _ (List.mem_append_left _ (List.mem_of_getElem? (i := 229) rfl)))))))))) rfl
theorem tw_1761 : (Jvm.Cond.methodLink "ValueAlgebraLaw" (104 : Nat) ({ cls := "ValueAlgebraModel", name := "again", desc := "(I)V" } : Jvm.MethodName)) ∈ gk_T := gk_T_mem (List.mem_append_right _ (List.mem_append_right _ (List.mem_append_right _ (List.mem_append_right _ (List.mem_append_right _ (List.mem_append_right _ (List.mem_append_right _ (List.mem_append_right _ (List.mem_append_left _ (List.mem_of_getElem? (i := 231) rfl)))))))))) rfl
theorem tw_1762 : (Jvm.Cond.instanceMethod ({ cls := "ValueAlgebraModel", name := "again", desc := "(I)V" } : Jvm.MethodName)) ∈ gk_T := gk_T_mem (List.mem_append_right _ (List.mem_append_right _ (List.mem_append_right _ (List.mem_append_right _ (List.mem_append_right _ (List.mem_append_right _ (List.mem_append_right _ (List.mem_append_right _ (List.mem_append_left _ (List.mem_of_getElem? (i := 232) rfl)))))))))) rfl
theorem tw_1763 : (Jvm.Cond.selects "ValueAlgebraModel" ({ cls := "ValueAlgebraModel", name := "again", desc := "(I)V" } : Jvm.MethodName) ({ cls := "ValueAlgebraModel", name := "again", desc := "(I)V" } : Jvm.MethodName)) ∈ gk_T := gk_T_mem (List.mem_append_right _ (List.mem_append_right _ (List.mem_append_right _ (List.mem_append_right _ (List.mem_append_right _ (List.mem_append_right _ (List.mem_append_right _ (List.mem_append_right _ (List.mem_append_left _ (List.mem_of_getElem? (i := 233) rfl)))))))))) rfl
theorem tw_1769 : (Jvm.Cond.methodLink "ValueAlgebraLaw" (108 : Nat) ({ cls := "ValueAlgebraModel", name := "size", desc := "()I" } : Jvm.MethodName)) ∈ gk_T := gk_T_mem (List.mem_append_right _ (List.mem_append_right _ (List.mem_append_right _ (List.mem_append_right _ (List.mem_append_right _ (List.mem_append_right _ (List.mem_append_right _ (List.mem_append_right _ (List.mem_append_left _ (List.mem_of_getElem? (i := 239) rfl)))))))))) rfl
theorem tw_1770 : (Jvm.Cond.instanceMethod ({ cls := "ValueAlgebraModel", name := "size", desc := "()I" } : Jvm.MethodName)) ∈ gk_T := gk_T_mem (List.mem_append_right _ (List.mem_append_right _ (List.mem_append_right _ (List.mem_append_right _ (List.mem_append_right _ (List.mem_append_right _ (List.mem_append_right _ (List.mem_append_right _ (List.mem_append_right _ (List.mem_append_left _ (List.mem_of_getElem? (i := 0) rfl))))))))))) rfl
theorem tw_1771 : (Jvm.Cond.selects "ValueAlgebraModel" ({ cls := "ValueAlgebraModel", name := "size", desc := "()I" } : Jvm.MethodName) ({ cls := "ValueAlgebraModel", name := "size", desc := "()I" } : Jvm.MethodName)) ∈ gk_T := gk_T_mem (List.mem_append_right _ (List.mem_append_right _ (List.mem_append_right _ (List.mem_append_right _ (List.mem_append_right _ (List.mem_append_right _ (List.mem_append_right _ (List.mem_append_right _ (List.mem_append_right _ (List.mem_append_left _ (List.mem_of_getElem? (i := 1) rfl))))))))))) rfl
theorem tw_1773 : (Jvm.Cond.methodLink "ValueAlgebraLaw" (112 : Nat) ({ cls := "ValueAlgebraModel", name := "about", desc := "(II)I" } : Jvm.MethodName)) ∈ gk_T := gk_T_mem (List.mem_append_right _ (List.mem_append_right _ (List.mem_append_right _ (List.mem_append_right _ (List.mem_append_right _ (List.mem_append_right _ (List.mem_append_right _ (List.mem_append_right _ (List.mem_append_right _ (List.mem_append_left _ (List.mem_of_getElem? (i := 3) rfl))))))))))) rfl
theorem tw_1774 : (Jvm.Cond.instanceMethod ({ cls := "ValueAlgebraModel", name := "about", desc := "(II)I" } : Jvm.MethodName)) ∈ gk_T := gk_T_mem (List.mem_append_right _ (List.mem_append_right _ (List.mem_append_right _ (List.mem_append_right _ (List.mem_append_right _ (List.mem_append_right _ (List.mem_append_right _ (List.mem_append_right _ (List.mem_append_right _ (List.mem_append_left _ (List.mem_of_getElem? (i := 4) rfl))))))))))) rfl
theorem tw_1775 : (Jvm.Cond.selects "ValueAlgebraModel" ({ cls := "ValueAlgebraModel", name := "about", desc := "(II)I" } : Jvm.MethodName) ({ cls := "ValueAlgebraModel", name := "about", desc := "(II)I" } : Jvm.MethodName)) ∈ gk_T := gk_T_mem (List.mem_append_right _ (List.mem_append_right _ (List.mem_append_right _ (List.mem_append_right _ (List.mem_append_right _ (List.mem_append_right _ (List.mem_append_right _ (List.mem_append_right _ (List.mem_append_right _ (List.mem_append_left _ (List.mem_of_getElem? (i := 5) rfl))))))))))) rfl
theorem tw_1777 : (Jvm.Cond.methodLink "ValueAlgebraLaw" (116 : Nat) ({ cls := "ValueAlgebraModel", name := "cell", desc := "(IIII)I" } : Jvm.MethodName)) ∈ gk_T := gk_T_mem (List.mem_append_right _ (List.mem_append_right _ (List.mem_append_right _ (List.mem_append_right _ (List.mem_append_right _ (List.mem_append_right _ (List.mem_append_right _ (List.mem_append_right _ (List.mem_append_right _ (List.mem_append_left _ (List.mem_of_getElem? (i := 7) rfl))))))))))) rfl
theorem tw_1778 : (Jvm.Cond.instanceMethod ({ cls := "ValueAlgebraModel", name := "cell", desc := "(IIII)I" } : Jvm.MethodName)) ∈ gk_T := gk_T_mem (List.mem_append_right _ (List.mem_append_right _ (List.mem_append_right _ (List.mem_append_right _ (List.mem_append_right _ (List.mem_append_right _ (List.mem_append_right _ (List.mem_append_right _ (List.mem_append_right _ (List.mem_append_left _ (List.mem_of_getElem? (i := 8) rfl))))))))))) rfl
theorem tw_1779 : (Jvm.Cond.selects "ValueAlgebraModel" ({ cls := "ValueAlgebraModel", name := "cell", desc := "(IIII)I" } : Jvm.MethodName) ({ cls := "ValueAlgebraModel", name := "cell", desc := "(IIII)I" } : Jvm.MethodName)) ∈ gk_T := gk_T_mem (List.mem_append_right _ (List.mem_append_right _ (List.mem_append_right _ (List.mem_append_right _ (List.mem_append_right _ (List.mem_append_right _ (List.mem_append_right _ (List.mem_append_right _ (List.mem_append_right _ (List.mem_append_left _ (List.mem_of_getElem? (i := 9) rfl))))))))))) rfl
theorem tw_1785 : (Jvm.Cond.methodLink "ValueAlgebraLaw" (120 : Nat) ({ cls := "ValueAlgebraModel", name := "value", desc := "(III)D" } : Jvm.MethodName)) ∈ gk_T := gk_T_mem (List.mem_append_right _ (List.mem_append_right _ (List.mem_append_right _ (List.mem_append_right _ (List.mem_append_right _ (List.mem_append_right _ (List.mem_append_right _ (List.mem_append_right _ (List.mem_append_right _ (List.mem_append_left _ (List.mem_of_getElem? (i := 15) rfl))))))))))) rfl
theorem tw_1786 : (Jvm.Cond.instanceMethod ({ cls := "ValueAlgebraModel", name := "value", desc := "(III)D" } : Jvm.MethodName)) ∈ gk_T := gk_T_mem (List.mem_append_right _ (List.mem_append_right _ (List.mem_append_right _ (List.mem_append_right _ (List.mem_append_right _ (List.mem_append_right _ (List.mem_append_right _ (List.mem_append_right _ (List.mem_append_right _ (List.mem_append_left _ (List.mem_of_getElem? (i := 16) rfl))))))))))) rfl
theorem tw_1787 : (Jvm.Cond.selects "ValueAlgebraModel" ({ cls := "ValueAlgebraModel", name := "value", desc := "(III)D" } : Jvm.MethodName) ({ cls := "ValueAlgebraModel", name := "value", desc := "(III)D" } : Jvm.MethodName)) ∈ gk_T := gk_T_mem (List.mem_append_right _ (List.mem_append_right _ (List.mem_append_right _ (List.mem_append_right _ (List.mem_append_right _ (List.mem_append_right _ (List.mem_append_right _ (List.mem_append_right _ (List.mem_append_right _ (List.mem_append_left _ (List.mem_of_getElem? (i := 17) rfl))))))))))) rfl
theorem tw_1789 : (Jvm.Cond.methodLink "ValueAlgebraLaw" (123 : Nat) ({ cls := "ValueAlgebraModel", name := "letter", desc := "(IIII)I" } : Jvm.MethodName)) ∈ gk_T := gk_T_mem (List.mem_append_right _ (List.mem_append_right _ (List.mem_append_right _ (List.mem_append_right _ (List.mem_append_right _ (List.mem_append_right _ (List.mem_append_right _ (List.mem_append_right _ (List.mem_append_right _ (List.mem_append_left _ (List.mem_of_getElem? (i := 19) rfl))))))))))) rfl
theorem tw_1790 : (Jvm.Cond.instanceMethod ({ cls := "ValueAlgebraModel", name := "letter", desc := "(IIII)I" } : Jvm.MethodName)) ∈ gk_T := gk_T_mem (List.mem_append_right _ (List.mem_append_right _ (List.mem_append_right _ (List.mem_append_right _ (List.mem_append_right _ (List.mem_append_right _ (List.mem_append_right _ (List.mem_append_right _ (List.mem_append_right _ (List.mem_append_left _ (List.mem_of_getElem? (i := 20) rfl))))))))))) rfl
theorem tw_1791 : (Jvm.Cond.selects "ValueAlgebraModel" ({ cls := "ValueAlgebraModel", name := "letter", desc := "(IIII)I" } : Jvm.MethodName) ({ cls := "ValueAlgebraModel", name := "letter", desc := "(IIII)I" } : Jvm.MethodName)) ∈ gk_T := gk_T_mem (List.mem_append_right _ (List.mem_append_right _ (List.mem_append_right _ (List.mem_append_right _ (List.mem_append_right _ (List.mem_append_right _ (List.mem_append_right _ (List.mem_append_right _ (List.mem_append_right _ (List.mem_append_left _ (List.mem_of_getElem? (i := 21) rfl))))))))))) rfl
theorem tw_1793 : (Jvm.Cond.methodLink "ValueAlgebraLaw" (95 : Nat) ({ cls := "ValueAlgebraModel", name := "operate", desc := "(I)V" } : Jvm.MethodName)) ∈ gk_T := gk_T_mem (List.mem_append_right _ (List.mem_append_right _ (List.mem_append_right _ (List.mem_append_right _ (List.mem_append_right _ (List.mem_append_right _ (List.mem_append_right _ (List.mem_append_right _ (List.mem_append_right _ (List.mem_append_left _ (List.mem_of_getElem? (i := 23) rfl))))))))))) rfl
theorem tw_1794 : (Jvm.Cond.instanceMethod ({ cls := "ValueAlgebraModel", name := "operate", desc := "(I)V" } : Jvm.MethodName)) ∈ gk_T := gk_T_mem (List.mem_append_right _ (List.mem_append_right _ (List.mem_append_right _ (List.mem_append_right _ (List.mem_append_right _ (List.mem_append_right _ (List.mem_append_right _ (List.mem_append_right _ (List.mem_append_right _ (List.mem_append_left _ (List.mem_of_getElem? (i := 24) rfl))))))))))) rfl
theorem tw_1795 : (Jvm.Cond.selects "ValueAlgebraModel" ({ cls := "ValueAlgebraModel", name := "operate", desc := "(I)V" } : Jvm.MethodName) ({ cls := "ValueAlgebraModel", name := "operate", desc := "(I)V" } : Jvm.MethodName)) ∈ gk_T := gk_T_mem (List.mem_append_right _ (List.mem_append_right _ (List.mem_append_right _ (List.mem_append_right _ (List.mem_append_right _ (List.mem_append_right _ (List.mem_append_right _ (List.mem_append_right _ (List.mem_append_right _ (List.mem_append_left _ (List.mem_of_getElem? (i := 25) rfl))))))))))) rfl
theorem tw_1924 : (Jvm.Cond.methodLink "ValueAlgebraLaw" (98 : Nat) ({ cls := "ValueAlgebraModel", name := "call", desc := "(II)V" } : Jvm.MethodName)) ∈ gk_T := gk_T_mem (List.mem_append_right _ (List.mem_append_right _ (List.mem_append_right _ (List.mem_append_right _ (List.mem_append_right _ (List.mem_append_right _ (List.mem_append_right _ (List.mem_append_right _ (List.mem_append_right _ (List.mem_append_left _ (List.mem_of_getElem? (i := 154) rfl))))))))))) rfl
theorem tw_1925 : (Jvm.Cond.instanceMethod ({ cls := "ValueAlgebraModel", name := "call", desc := "(II)V" } : Jvm.MethodName)) ∈ gk_T := gk_T_mem (List.mem_append_right _ (List.mem_append_right _ (List.mem_append_right _ (List.mem_append_right _ (List.mem_append_right _ (List.mem_append_right _ (List.mem_append_right _ (List.mem_append_right _ (List.mem_append_right _ (List.mem_append_left _ (List.mem_of_getElem? (i := 155) rfl))))))))))) rfl
theorem tw_1926 : (Jvm.Cond.selects "ValueAlgebraModel" ({ cls := "ValueAlgebraModel", name := "call", desc := "(II)V" } : Jvm.MethodName) ({ cls := "ValueAlgebraModel", name := "call", desc := "(II)V" } : Jvm.MethodName)) ∈ gk_T := gk_T_mem (List.mem_append_right _ (List.mem_append_right _ (List.mem_append_right _ (List.mem_append_right _ (List.mem_append_right _ (List.mem_append_right _ (List.mem_append_right _ (List.mem_append_right _ (List.mem_append_right _ (List.mem_append_left _ (List.mem_of_getElem? (i := 156) rfl))))))))))) rfl
theorem tw_2179 : (Jvm.Cond.constantDouble "ValueAlgebraLaw" (65 : Nat) (4593671619917905920 : UInt64)) ∈ gk_T := gk_T_mem (List.mem_append_right _ (List.mem_append_right _ (List.mem_append_right _ (List.mem_append_right _ (List.mem_append_right _ (List.mem_append_right _ (List.mem_append_right _ (List.mem_append_right _ (List.mem_append_right _ (List.mem_append_right _ (List.mem_of_getElem? (i := 169) rfl))))))))))) rfl
theorem tw_2180 : (Jvm.Cond.arrayClass Jvm.ClassFile.FieldType.long) ∈ gk_T := gk_T_mem (List.mem_append_right _ (List.mem_append_right _ (List.mem_append_right _ (List.mem_append_right _ (List.mem_append_right _ (List.mem_append_right _ (List.mem_append_right _ (List.mem_append_right _ (List.mem_append_right _ (List.mem_append_right _ (List.mem_of_getElem? (i := 170) rfl))))))))))) rfl
theorem d_L_letter_0 : decode b_L_letter 0 = .ok (.aload 5, 2) := by decide +kernel
theorem d_L_letter_2 : decode b_L_letter 2 = .ok (.iconst 0, 1) := by decide +kernel
theorem d_L_letter_3 : decode b_L_letter 3 = .ok (.aload_n 0, 1) := by decide +kernel
theorem d_L_letter_4 : decode b_L_letter 4 = .ok (.iload_n 1, 1) := by decide +kernel
theorem d_L_letter_5 : decode b_L_letter 5 = .ok (.iload_n 2, 1) := by decide +kernel
theorem d_L_letter_6 : decode b_L_letter 6 = .ok (.iload_n 3, 1) := by decide +kernel
theorem d_L_letter_7 : decode b_L_letter 7 = .ok (.iload 4, 2) := by decide +kernel
theorem d_L_letter_9 : decode b_L_letter 9 = .ok (.invokevirtual 58, 3) := by decide +kernel
theorem d_L_letter_12 : decode b_L_letter 12 = .ok (.i2l, 1) := by decide +kernel
theorem d_L_letter_13 : decode b_L_letter 13 = .ok (.lastore, 1) := by decide +kernel
theorem d_L_letter_14 : decode b_L_letter 14 = .ok (.goto 7, 3) := by decide +kernel
theorem d_L_letter_17 : decode b_L_letter 17 = .ok (.astore 6, 2) := by decide +kernel
theorem d_L_letter_19 : decode b_L_letter 19 = .ok (.iconst 1, 1) := by decide +kernel
theorem d_L_letter_20 : decode b_L_letter 20 = .ok (.ireturn, 1) := by decide +kernel
theorem d_L_letter_21 : decode b_L_letter 21 = .ok (.iconst 0, 1) := by decide +kernel
theorem d_L_letter_22 : decode b_L_letter 22 = .ok (.ireturn, 1) := by decide +kernel
theorem w_L_letter (d : Nat) (a0 : Option Nat) (a1 : Int32) (a2 : Int32) (a3 : Int32) (a4 : Int32) (a5 : Option Nat) (h : gk_H) : gk_P gw_I (d + 11) y_L_letter b_L_letter 7 (some .int) (tableOf [(0, 14, 17, 44)]) (f_L_letter a0 a1 a2 a3 a4 a5 h) 0 [(0, va_rf a0), (1, .int a1), (2, .int a2), (3, .int a3), (4, .int a4), (5, va_rf a5)] [] h := by
  unfold f_L_letter
  refine gk_aload (pc := 0) 5 d_L_letter_0 rfl ?_
  refine gk_iconst (pc := 2) (0 : Int32) d_L_letter_2 rfl ?_
  refine gk_aload_n (pc := 3) 0 d_L_letter_3 rfl ?_
  refine gk_iload_n (pc := 4) 1 d_L_letter_4 rfl ?_
  refine gk_iload_n (pc := 5) 2 d_L_letter_5 rfl ?_
  refine gk_iload_n (pc := 6) 3 d_L_letter_6 rfl ?_
  refine gk_iload (pc := 7) 4 d_L_letter_7 rfl ?_
  refine gk_callVC1 (pc := 9) (d := (d + 10)) (w' := gx_I) (as := [.int a1, .int a2, .int a3, .int a4]) (n := 4) (gv := gv_I) 5 d_L_letter_9 rfl rfl rfl rfl (by simp [gk_cat_rf, gk_catI, gk_catJ, gk_catD, gv_V, gv_I, gv_J, gv_D, gv_R]) tw_1633 tw_1634 tw_1635 tw_91 cw_A_letter hy_A_letter (Nat.le_of_ble_eq_true rfl) (p_A_letter d a0 a1 a2 a3 a4 h) (fun _ => rfl) (fun _ => rfl) rfl (by decide) (by decide) tw_1578 (List.mem_of_getElem? (i := 2) rfl) (fun x1 h1 => ?_) (fun h1 => ?_)
  · refine gk_i2l (pc := 12) d_L_letter_12 ?_
    refine gk_last (pc := 13) d_L_letter_13 fun h2 => ?_
    refine gk_goto (pc := 14) 21 d_L_letter_14 rfl ?_
    refine gk_iconst (pc := 21) (0 : Int32) d_L_letter_21 rfl ?_
    exact gk_iret (pc := 22) rfl d_L_letter_22 rfl
  · refine gk_topR (pc := 17) fun x2 => ?_
    refine gk_astore (pc := 17) (L' := [(6, va_rf x2), (0, va_rf a0), (1, .int a1), (2, .int a2), (3, .int a3), (4, .int a4), (5, va_rf a5)]) d_L_letter_17 (Nat.le_of_ble_eq_true rfl) (by simp [gk_s1, gk_s2, gk_cat_rf, gk_catI, gk_catJ, gk_catD] <;> decide) ?_
    refine gk_iconst (pc := 19) (1 : Int32) d_L_letter_19 rfl ?_
    exact gk_iret (pc := 20) rfl d_L_letter_20 rfl
theorem p_L_letter (d : Nat) (a0 : Option Nat) (a1 : Int32) (a2 : Int32) (a3 : Int32) (a4 : Int32) (a5 : Option Nat) (h : gk_H) : ∀ r h1, f_L_letter a0 a1 a2 a3 a4 a5 h = some (r, h1) → gk_MH (d + 11) y_L_letter b_L_letter 7 (some .int) [(0, 14, 17, 44)] [va_rf a0, .int a1, .int a2, .int a3, .int a4, va_rf a5] h (gv_I r) h1 :=
  fun r h1 e => gk_MH_of (by decide +kernel) (by simp [lv_args, gk_cat_rf, gk_catI, gk_catJ, gk_catD, gv_V, gv_I, gv_J, gv_D, gv_R]) (by simp [lg_sl, gk_cat_rf, gk_catI, gk_catJ, gk_catD, gv_V, gv_I, gv_J, gv_D, gv_R]) (w_L_letter d a0 a1 a2 a3 a4 a5 h r h1 e)
theorem d_L_value_0 : decode b_L_value 0 = .ok (.aload 4, 2) := by decide +kernel
theorem d_L_value_2 : decode b_L_value 2 = .ok (.iconst 0, 1) := by decide +kernel
theorem d_L_value_3 : decode b_L_value 3 = .ok (.aload_n 0, 1) := by decide +kernel
theorem d_L_value_4 : decode b_L_value 4 = .ok (.iload_n 1, 1) := by decide +kernel
theorem d_L_value_5 : decode b_L_value 5 = .ok (.iload_n 2, 1) := by decide +kernel
theorem d_L_value_6 : decode b_L_value 6 = .ok (.iload_n 3, 1) := by decide +kernel
theorem d_L_value_7 : decode b_L_value 7 = .ok (.invokevirtual 54, 3) := by decide +kernel
theorem d_L_value_10 : decode b_L_value 10 = .ok (.dastore, 1) := by decide +kernel
theorem d_L_value_11 : decode b_L_value 11 = .ok (.goto 7, 3) := by decide +kernel
theorem d_L_value_14 : decode b_L_value 14 = .ok (.astore 5, 2) := by decide +kernel
theorem d_L_value_16 : decode b_L_value 16 = .ok (.iconst 1, 1) := by decide +kernel
theorem d_L_value_17 : decode b_L_value 17 = .ok (.ireturn, 1) := by decide +kernel
theorem d_L_value_18 : decode b_L_value 18 = .ok (.iconst 0, 1) := by decide +kernel
theorem d_L_value_19 : decode b_L_value 19 = .ok (.ireturn, 1) := by decide +kernel
theorem w_L_value (d : Nat) (a0 : Option Nat) (a1 : Int32) (a2 : Int32) (a3 : Int32) (a4 : Option Nat) (h : gk_H) : gk_P gw_I (d + 11) y_L_value b_L_value 6 (some .int) (tableOf [(0, 11, 14, 44)]) (f_L_value a0 a1 a2 a3 a4 h) 0 [(0, va_rf a0), (1, .int a1), (2, .int a2), (3, .int a3), (4, va_rf a4)] [] h := by
  unfold f_L_value
  refine gk_aload (pc := 0) 4 d_L_value_0 rfl ?_
  refine gk_iconst (pc := 2) (0 : Int32) d_L_value_2 rfl ?_
  refine gk_aload_n (pc := 3) 0 d_L_value_3 rfl ?_
  refine gk_iload_n (pc := 4) 1 d_L_value_4 rfl ?_
  refine gk_iload_n (pc := 5) 2 d_L_value_5 rfl ?_
  refine gk_iload_n (pc := 6) 3 d_L_value_6 rfl ?_
  refine gk_callVC1 (pc := 7) (d := (d + 10)) (w' := gx_D) (as := [.int a1, .int a2, .int a3]) (n := 3) (gv := gv_D) 5 d_L_value_7 rfl rfl rfl rfl (by simp [gk_cat_rf, gk_catI, gk_catJ, gk_catD, gv_V, gv_I, gv_J, gv_D, gv_R]) tw_1626 tw_1627 tw_1628 tw_91 cw_A_value hy_A_value (Nat.le_of_ble_eq_true rfl) (p_A_value d a0 a1 a2 a3 h) (fun _ => rfl) (fun _ => rfl) rfl (by decide) (by decide) tw_1578 (List.mem_of_getElem? (i := 2) rfl) (fun x1 h1 => ?_) (fun h1 => ?_)
  · refine gk_dast (pc := 10) d_L_value_10 fun h2 => ?_
    refine gk_goto (pc := 11) 18 d_L_value_11 rfl ?_
    refine gk_iconst (pc := 18) (0 : Int32) d_L_value_18 rfl ?_
    exact gk_iret (pc := 19) rfl d_L_value_19 rfl
  · refine gk_topR (pc := 14) fun x2 => ?_
    refine gk_astore (pc := 14) (L' := [(5, va_rf x2), (0, va_rf a0), (1, .int a1), (2, .int a2), (3, .int a3), (4, va_rf a4)]) d_L_value_14 (Nat.le_of_ble_eq_true rfl) (by simp [gk_s1, gk_s2, gk_cat_rf, gk_catI, gk_catJ, gk_catD] <;> decide) ?_
    refine gk_iconst (pc := 16) (1 : Int32) d_L_value_16 rfl ?_
    exact gk_iret (pc := 17) rfl d_L_value_17 rfl
theorem p_L_value (d : Nat) (a0 : Option Nat) (a1 : Int32) (a2 : Int32) (a3 : Int32) (a4 : Option Nat) (h : gk_H) : ∀ r h1, f_L_value a0 a1 a2 a3 a4 h = some (r, h1) → gk_MH (d + 11) y_L_value b_L_value 6 (some .int) [(0, 11, 14, 44)] [va_rf a0, .int a1, .int a2, .int a3, va_rf a4] h (gv_I r) h1 :=
  fun r h1 e => gk_MH_of (by decide +kernel) (by simp [lv_args, gk_cat_rf, gk_catI, gk_catJ, gk_catD, gv_V, gv_I, gv_J, gv_D, gv_R]) (by simp [lg_sl, gk_cat_rf, gk_catI, gk_catJ, gk_catD, gv_V, gv_I, gv_J, gv_D, gv_R]) (w_L_value d a0 a1 a2 a3 a4 h r h1 e)
theorem d_L_cell_0 : decode b_L_cell 0 = .ok (.aload 5, 2) := by decide +kernel
theorem d_L_cell_2 : decode b_L_cell 2 = .ok (.iconst 0, 1) := by decide +kernel
theorem d_L_cell_3 : decode b_L_cell 3 = .ok (.aload_n 0, 1) := by decide +kernel
theorem d_L_cell_4 : decode b_L_cell 4 = .ok (.iload_n 1, 1) := by decide +kernel
theorem d_L_cell_5 : decode b_L_cell 5 = .ok (.iload_n 2, 1) := by decide +kernel
theorem d_L_cell_6 : decode b_L_cell 6 = .ok (.iload_n 3, 1) := by decide +kernel
theorem d_L_cell_7 : decode b_L_cell 7 = .ok (.iload 4, 2) := by decide +kernel
theorem d_L_cell_9 : decode b_L_cell 9 = .ok (.invokevirtual 50, 3) := by decide +kernel
theorem d_L_cell_12 : decode b_L_cell 12 = .ok (.i2l, 1) := by decide +kernel
theorem d_L_cell_13 : decode b_L_cell 13 = .ok (.lastore, 1) := by decide +kernel
theorem d_L_cell_14 : decode b_L_cell 14 = .ok (.goto 11, 3) := by decide +kernel
theorem d_L_cell_17 : decode b_L_cell 17 = .ok (.astore 6, 2) := by decide +kernel
theorem d_L_cell_19 : decode b_L_cell 19 = .ok (.iconst 1, 1) := by decide +kernel
theorem d_L_cell_20 : decode b_L_cell 20 = .ok (.ireturn, 1) := by decide +kernel
theorem d_L_cell_21 : decode b_L_cell 21 = .ok (.astore 6, 2) := by decide +kernel
theorem d_L_cell_23 : decode b_L_cell 23 = .ok (.iconst 2, 1) := by decide +kernel
theorem d_L_cell_24 : decode b_L_cell 24 = .ok (.ireturn, 1) := by decide +kernel
theorem d_L_cell_25 : decode b_L_cell 25 = .ok (.iconst 0, 1) := by decide +kernel
theorem d_L_cell_26 : decode b_L_cell 26 = .ok (.ireturn, 1) := by decide +kernel
theorem w_L_cell (d : Nat) (a0 : Option Nat) (a1 : Int32) (a2 : Int32) (a3 : Int32) (a4 : Int32) (a5 : Option Nat) (h : gk_H) : gk_P gw_I (d + 11) y_L_cell b_L_cell 7 (some .int) (tableOf [(0, 14, 17, 44), (0, 14, 21, 19)]) (f_L_cell a0 a1 a2 a3 a4 a5 h) 0 [(0, va_rf a0), (1, .int a1), (2, .int a2), (3, .int a3), (4, .int a4), (5, va_rf a5)] [] h := by
  unfold f_L_cell
  refine gk_aload (pc := 0) 5 d_L_cell_0 rfl ?_
  refine gk_iconst (pc := 2) (0 : Int32) d_L_cell_2 rfl ?_
  refine gk_aload_n (pc := 3) 0 d_L_cell_3 rfl ?_
  refine gk_iload_n (pc := 4) 1 d_L_cell_4 rfl ?_
  refine gk_iload_n (pc := 5) 2 d_L_cell_5 rfl ?_
  refine gk_iload_n (pc := 6) 3 d_L_cell_6 rfl ?_
  refine gk_iload (pc := 7) 4 d_L_cell_7 rfl ?_
  refine gk_callVC2 (pc := 9) (d := (d + 10)) (w' := gx_I) (as := [.int a1, .int a2, .int a3, .int a4]) (n := 4) (gv := gv_I) 5 d_L_cell_9 rfl rfl rfl rfl (by simp [gk_cat_rf, gk_catI, gk_catJ, gk_catD, gv_V, gv_I, gv_J, gv_D, gv_R]) tw_1611 tw_1612 tw_1613 tw_91 cw_A_cell hy_A_cell (Nat.le_of_ble_eq_true rfl) (p_A_cell d a0 a1 a2 a3 a4 h) (fun _ => rfl) (fun _ => rfl) rfl (by decide) (by decide) tw_1578 (List.mem_of_getElem? (i := 2) rfl) (by decide) (by decide) tw_400 (List.mem_of_getElem? (i := 1) rfl) (by decide +kernel) (fun x1 h1 => ?_) (fun h1 => ?_) (fun h1 => ?_)
  · refine gk_i2l (pc := 12) d_L_cell_12 ?_
    refine gk_last (pc := 13) d_L_cell_13 fun h2 => ?_
    refine gk_goto (pc := 14) 25 d_L_cell_14 rfl ?_
    refine gk_iconst (pc := 25) (0 : Int32) d_L_cell_25 rfl ?_
    exact gk_iret (pc := 26) rfl d_L_cell_26 rfl
  · refine gk_topR (pc := 17) fun x2 => ?_
    refine gk_astore (pc := 17) (L' := [(6, va_rf x2), (0, va_rf a0), (1, .int a1), (2, .int a2), (3, .int a3), (4, .int a4), (5, va_rf a5)]) d_L_cell_17 (Nat.le_of_ble_eq_true rfl) (by simp [gk_s1, gk_s2, gk_cat_rf, gk_catI, gk_catJ, gk_catD] <;> decide) ?_
    refine gk_iconst (pc := 19) (1 : Int32) d_L_cell_19 rfl ?_
    exact gk_iret (pc := 20) rfl d_L_cell_20 rfl
  · refine gk_topR (pc := 21) fun x3 => ?_
    refine gk_astore (pc := 21) (L' := [(6, va_rf x3), (0, va_rf a0), (1, .int a1), (2, .int a2), (3, .int a3), (4, .int a4), (5, va_rf a5)]) d_L_cell_21 (Nat.le_of_ble_eq_true rfl) (by simp [gk_s1, gk_s2, gk_cat_rf, gk_catI, gk_catJ, gk_catD] <;> decide) ?_
    refine gk_iconst (pc := 23) (2 : Int32) d_L_cell_23 rfl ?_
    exact gk_iret (pc := 24) rfl d_L_cell_24 rfl
theorem p_L_cell (d : Nat) (a0 : Option Nat) (a1 : Int32) (a2 : Int32) (a3 : Int32) (a4 : Int32) (a5 : Option Nat) (h : gk_H) : ∀ r h1, f_L_cell a0 a1 a2 a3 a4 a5 h = some (r, h1) → gk_MH (d + 11) y_L_cell b_L_cell 7 (some .int) [(0, 14, 17, 44), (0, 14, 21, 19)] [va_rf a0, .int a1, .int a2, .int a3, .int a4, va_rf a5] h (gv_I r) h1 :=
  fun r h1 e => gk_MH_of (by decide +kernel) (by simp [lv_args, gk_cat_rf, gk_catI, gk_catJ, gk_catD, gv_V, gv_I, gv_J, gv_D, gv_R]) (by simp [lg_sl, gk_cat_rf, gk_catI, gk_catJ, gk_catD, gv_V, gv_I, gv_J, gv_D, gv_R]) (w_L_cell d a0 a1 a2 a3 a4 a5 h r h1 e)
theorem d_L_about_0 : decode b_L_about 0 = .ok (.aload_n 3, 1) := by decide +kernel
theorem d_L_about_1 : decode b_L_about 1 = .ok (.iconst 0, 1) := by decide +kernel
theorem d_L_about_2 : decode b_L_about 2 = .ok (.aload_n 0, 1) := by decide +kernel
theorem d_L_about_3 : decode b_L_about 3 = .ok (.iload_n 1, 1) := by decide +kernel
theorem d_L_about_4 : decode b_L_about 4 = .ok (.iload_n 2, 1) := by decide +kernel
theorem d_L_about_5 : decode b_L_about 5 = .ok (.invokevirtual 46, 3) := by decide +kernel
theorem d_L_about_8 : decode b_L_about 8 = .ok (.i2l, 1) := by decide +kernel
theorem d_L_about_9 : decode b_L_about 9 = .ok (.lastore, 1) := by decide +kernel
theorem d_L_about_10 : decode b_L_about 10 = .ok (.goto 11, 3) := by decide +kernel
theorem d_L_about_13 : decode b_L_about 13 = .ok (.astore 4, 2) := by decide +kernel
theorem d_L_about_15 : decode b_L_about 15 = .ok (.iconst 1, 1) := by decide +kernel
theorem d_L_about_16 : decode b_L_about 16 = .ok (.ireturn, 1) := by decide +kernel
theorem d_L_about_17 : decode b_L_about 17 = .ok (.astore 4, 2) := by decide +kernel
theorem d_L_about_19 : decode b_L_about 19 = .ok (.iconst 2, 1) := by decide +kernel
theorem d_L_about_20 : decode b_L_about 20 = .ok (.ireturn, 1) := by decide +kernel
theorem d_L_about_21 : decode b_L_about 21 = .ok (.iconst 0, 1) := by decide +kernel
theorem d_L_about_22 : decode b_L_about 22 = .ok (.ireturn, 1) := by decide +kernel
theorem w_L_about (d : Nat) (a0 : Option Nat) (a1 : Int32) (a2 : Int32) (a3 : Option Nat) (h : gk_H) : gk_P gw_I (d + 10) y_L_about b_L_about 5 (some .int) (tableOf [(0, 10, 13, 44), (0, 10, 17, 19)]) (f_L_about a0 a1 a2 a3 h) 0 [(0, va_rf a0), (1, .int a1), (2, .int a2), (3, va_rf a3)] [] h := by
  unfold f_L_about
  refine gk_aload_n (pc := 0) 3 d_L_about_0 rfl ?_
  refine gk_iconst (pc := 1) (0 : Int32) d_L_about_1 rfl ?_
  refine gk_aload_n (pc := 2) 0 d_L_about_2 rfl ?_
  refine gk_iload_n (pc := 3) 1 d_L_about_3 rfl ?_
  refine gk_iload_n (pc := 4) 2 d_L_about_4 rfl ?_
  refine gk_callVC2 (pc := 5) (d := (d + 9)) (w' := gx_I) (as := [.int a1, .int a2]) (n := 2) (gv := gv_I) 5 d_L_about_5 rfl rfl rfl rfl (by simp [gk_cat_rf, gk_catI, gk_catJ, gk_catD, gv_V, gv_I, gv_J, gv_D, gv_R]) tw_1603 tw_1604 tw_1605 tw_91 cw_A_about hy_A_about (Nat.le_of_ble_eq_true rfl) (p_A_about d a0 a1 a2 h) (fun _ => rfl) (fun _ => rfl) rfl (by decide) (by decide) tw_1578 (List.mem_of_getElem? (i := 2) rfl) (by decide) (by decide) tw_400 (List.mem_of_getElem? (i := 1) rfl) (by decide +kernel) (fun x1 h1 => ?_) (fun h1 => ?_) (fun h1 => ?_)
  · refine gk_i2l (pc := 8) d_L_about_8 ?_
    refine gk_last (pc := 9) d_L_about_9 fun h2 => ?_
    refine gk_goto (pc := 10) 21 d_L_about_10 rfl ?_
    refine gk_iconst (pc := 21) (0 : Int32) d_L_about_21 rfl ?_
    exact gk_iret (pc := 22) rfl d_L_about_22 rfl
  · refine gk_topR (pc := 13) fun x2 => ?_
    refine gk_astore (pc := 13) (L' := [(4, va_rf x2), (0, va_rf a0), (1, .int a1), (2, .int a2), (3, va_rf a3)]) d_L_about_13 (Nat.le_of_ble_eq_true rfl) (by simp [gk_s1, gk_s2, gk_cat_rf, gk_catI, gk_catJ, gk_catD] <;> decide) ?_
    refine gk_iconst (pc := 15) (1 : Int32) d_L_about_15 rfl ?_
    exact gk_iret (pc := 16) rfl d_L_about_16 rfl
  · refine gk_topR (pc := 17) fun x3 => ?_
    refine gk_astore (pc := 17) (L' := [(4, va_rf x3), (0, va_rf a0), (1, .int a1), (2, .int a2), (3, va_rf a3)]) d_L_about_17 (Nat.le_of_ble_eq_true rfl) (by simp [gk_s1, gk_s2, gk_cat_rf, gk_catI, gk_catJ, gk_catD] <;> decide) ?_
    refine gk_iconst (pc := 19) (2 : Int32) d_L_about_19 rfl ?_
    exact gk_iret (pc := 20) rfl d_L_about_20 rfl
theorem p_L_about (d : Nat) (a0 : Option Nat) (a1 : Int32) (a2 : Int32) (a3 : Option Nat) (h : gk_H) : ∀ r h1, f_L_about a0 a1 a2 a3 h = some (r, h1) → gk_MH (d + 10) y_L_about b_L_about 5 (some .int) [(0, 10, 13, 44), (0, 10, 17, 19)] [va_rf a0, .int a1, .int a2, va_rf a3] h (gv_I r) h1 :=
  fun r h1 e => gk_MH_of (by decide +kernel) (by simp [lv_args, gk_cat_rf, gk_catI, gk_catJ, gk_catD, gv_V, gv_I, gv_J, gv_D, gv_R]) (by simp [lg_sl, gk_cat_rf, gk_catI, gk_catJ, gk_catD, gv_V, gv_I, gv_J, gv_D, gv_R]) (w_L_about d a0 a1 a2 a3 h r h1 e)
theorem d_L_again_0 : decode b_L_again 0 = .ok (.aload_n 0, 1) := by decide +kernel
theorem d_L_again_1 : decode b_L_again 1 = .ok (.iload_n 1, 1) := by decide +kernel
theorem d_L_again_2 : decode b_L_again 2 = .ok (.invokevirtual 41, 3) := by decide +kernel
theorem d_L_again_5 : decode b_L_again 5 = .ok (.goto 9, 3) := by decide +kernel
theorem d_L_again_8 : decode b_L_again 8 = .ok (.astore_n 2, 1) := by decide +kernel
theorem d_L_again_9 : decode b_L_again 9 = .ok (.iconst 1, 1) := by decide +kernel
theorem d_L_again_10 : decode b_L_again 10 = .ok (.ireturn, 1) := by decide +kernel
theorem d_L_again_11 : decode b_L_again 11 = .ok (.astore_n 2, 1) := by decide +kernel
theorem d_L_again_12 : decode b_L_again 12 = .ok (.iconst 2, 1) := by decide +kernel
theorem d_L_again_13 : decode b_L_again 13 = .ok (.ireturn, 1) := by decide +kernel
theorem d_L_again_14 : decode b_L_again 14 = .ok (.iconst 0, 1) := by decide +kernel
theorem d_L_again_15 : decode b_L_again 15 = .ok (.ireturn, 1) := by decide +kernel
theorem w_L_again (d : Nat) (a0 : Option Nat) (a1 : Int32) (h : gk_H) : gk_P gw_I (d + 10) y_L_again b_L_again 3 (some .int) (tableOf [(0, 5, 8, 44), (0, 5, 11, 13)]) (f_L_again a0 a1 h) 0 [(0, va_rf a0), (1, .int a1)] [] h := by
  unfold f_L_again
  refine gk_aload_n (pc := 0) 0 d_L_again_0 rfl ?_
  refine gk_iload_n (pc := 1) 1 d_L_again_1 rfl ?_
  refine gk_callVC2 (pc := 2) (d := (d + 9)) (w' := gx_V) (as := [.int a1]) (n := 1) (gv := gv_V) 5 d_L_again_2 rfl rfl rfl rfl (Nat.le_of_ble_eq_true rfl) tw_1579 tw_1580 tw_1581 tw_91 cw_A_again hy_A_again (Nat.le_of_ble_eq_true rfl) (p_A_again d a0 a1 h) (fun _ => rfl) (fun _ => rfl) rfl (by decide) (by decide) tw_1578 (List.mem_of_getElem? (i := 2) rfl) (by decide) (by decide) tw_311 (List.mem_of_getElem? (i := 0) rfl) (by decide +kernel) (fun _ h1 => ?_) (fun h1 => ?_) (fun h1 => ?_)
  · refine gk_goto (pc := 5) 14 d_L_again_5 rfl ?_
    refine gk_iconst (pc := 14) (0 : Int32) d_L_again_14 rfl ?_
    exact gk_iret (pc := 15) rfl d_L_again_15 rfl
  · refine gk_topR (pc := 8) fun x1 => ?_
    refine gk_astore_n (pc := 8) (L' := [(2, va_rf x1), (0, va_rf a0), (1, .int a1)]) d_L_again_8 (Nat.le_of_ble_eq_true rfl) rfl ?_
    refine gk_iconst (pc := 9) (1 : Int32) d_L_again_9 rfl ?_
    exact gk_iret (pc := 10) rfl d_L_again_10 rfl
  · refine gk_topR (pc := 11) fun x2 => ?_
    refine gk_astore_n (pc := 11) (L' := [(2, va_rf x2), (0, va_rf a0), (1, .int a1)]) d_L_again_11 (Nat.le_of_ble_eq_true rfl) rfl ?_
    refine gk_iconst (pc := 12) (2 : Int32) d_L_again_12 rfl ?_
    exact gk_iret (pc := 13) rfl d_L_again_13 rfl
theorem p_L_again (d : Nat) (a0 : Option Nat) (a1 : Int32) (h : gk_H) : ∀ r h1, f_L_again a0 a1 h = some (r, h1) → gk_MH (d + 10) y_L_again b_L_again 3 (some .int) [(0, 5, 8, 44), (0, 5, 11, 13)] [va_rf a0, .int a1] h (gv_I r) h1 :=
  fun r h1 e => gk_MH_of (by decide +kernel) (by simp [lv_args, gk_cat_rf, gk_catI, gk_catJ, gk_catD, gv_V, gv_I, gv_J, gv_D, gv_R]) (by simp [lg_sl, gk_cat_rf, gk_catI, gk_catJ, gk_catD, gv_V, gv_I, gv_J, gv_D, gv_R]) (w_L_again d a0 a1 h r h1 e)
theorem d_L_drop_0 : decode b_L_drop 0 = .ok (.aload_n 0, 1) := by decide +kernel
theorem d_L_drop_1 : decode b_L_drop 1 = .ok (.invokevirtual 38, 3) := by decide +kernel
theorem d_L_drop_4 : decode b_L_drop 4 = .ok (.goto 6, 3) := by decide +kernel
theorem d_L_drop_7 : decode b_L_drop 7 = .ok (.astore_n 1, 1) := by decide +kernel
theorem d_L_drop_8 : decode b_L_drop 8 = .ok (.iconst 1, 1) := by decide +kernel
theorem d_L_drop_9 : decode b_L_drop 9 = .ok (.ireturn, 1) := by decide +kernel
theorem d_L_drop_10 : decode b_L_drop 10 = .ok (.iconst 0, 1) := by decide +kernel
theorem d_L_drop_11 : decode b_L_drop 11 = .ok (.ireturn, 1) := by decide +kernel
theorem w_L_drop (d : Nat) (a0 : Option Nat) (h : gk_H) : gk_P gw_I (d + 9) y_L_drop b_L_drop 2 (some .int) (tableOf [(0, 4, 7, 13)]) (f_L_drop a0 h) 0 [(0, va_rf a0)] [] h := by
  unfold f_L_drop
  refine gk_aload_n (pc := 0) 0 d_L_drop_0 rfl ?_
  refine gk_callVC1 (pc := 1) (d := (d + 8)) (w' := gx_V) (as := []) (n := 0) (gv := gv_V) 5 d_L_drop_1 rfl rfl rfl rfl (Nat.le_of_ble_eq_true rfl) tw_1570 tw_1571 tw_1572 tw_91 cw_A_drop hy_A_drop (Nat.le_of_ble_eq_true rfl) (p_A_drop d a0 h) (fun _ => rfl) (fun _ => rfl) rfl (by decide) (by decide) tw_311 (List.mem_of_getElem? (i := 0) rfl) (fun _ h1 => ?_) (fun h1 => ?_)
  · refine gk_goto (pc := 4) 10 d_L_drop_4 rfl ?_
    refine gk_iconst (pc := 10) (0 : Int32) d_L_drop_10 rfl ?_
    exact gk_iret (pc := 11) rfl d_L_drop_11 rfl
  · refine gk_topR (pc := 7) fun x1 => ?_
    refine gk_astore_n (pc := 7) (L' := [(1, va_rf x1), (0, va_rf a0)]) d_L_drop_7 (Nat.le_of_ble_eq_true rfl) (by simp [gk_s1, gk_s2, gk_cat_rf, gk_catI, gk_catJ, gk_catD] <;> decide) ?_
    refine gk_iconst (pc := 8) (1 : Int32) d_L_drop_8 rfl ?_
    exact gk_iret (pc := 9) rfl d_L_drop_9 rfl
theorem p_L_drop (d : Nat) (a0 : Option Nat) (h : gk_H) : ∀ r h1, f_L_drop a0 h = some (r, h1) → gk_MH (d + 9) y_L_drop b_L_drop 2 (some .int) [(0, 4, 7, 13)] [va_rf a0] h (gv_I r) h1 :=
  fun r h1 e => gk_MH_of (by decide +kernel) (by simp [lv_args, gk_cat_rf, gk_catI, gk_catJ, gk_catD, gv_V, gv_I, gv_J, gv_D, gv_R]) (by simp [lg_sl, gk_cat_rf, gk_catI, gk_catJ, gk_catD, gv_V, gv_I, gv_J, gv_D, gv_R]) (w_L_drop d a0 h r h1 e)
theorem d_L_call_0 : decode b_L_call 0 = .ok (.aload_n 0, 1) := by decide +kernel
theorem d_L_call_1 : decode b_L_call 1 = .ok (.iload_n 1, 1) := by decide +kernel
theorem d_L_call_2 : decode b_L_call 2 = .ok (.iload_n 2, 1) := by decide +kernel
theorem d_L_call_3 : decode b_L_call 3 = .ok (.invokevirtual 35, 3) := by decide +kernel
theorem d_L_call_6 : decode b_L_call 6 = .ok (.goto 9, 3) := by decide +kernel
theorem d_L_call_9 : decode b_L_call 9 = .ok (.astore_n 3, 1) := by decide +kernel
theorem d_L_call_10 : decode b_L_call 10 = .ok (.iconst 1, 1) := by decide +kernel
theorem d_L_call_11 : decode b_L_call 11 = .ok (.ireturn, 1) := by decide +kernel
theorem d_L_call_12 : decode b_L_call 12 = .ok (.astore_n 3, 1) := by decide +kernel
theorem d_L_call_13 : decode b_L_call 13 = .ok (.iconst 2, 1) := by decide +kernel
theorem d_L_call_14 : decode b_L_call 14 = .ok (.ireturn, 1) := by decide +kernel
theorem d_L_call_15 : decode b_L_call 15 = .ok (.iconst 0, 1) := by decide +kernel
theorem d_L_call_16 : decode b_L_call 16 = .ok (.ireturn, 1) := by decide +kernel
theorem w_L_call (d : Nat) (a0 : Option Nat) (a1 : Int32) (a2 : Int32) (h : gk_H) : gk_P gw_I (d + 12) y_L_call b_L_call 4 (some .int) (tableOf [(0, 6, 9, 19), (0, 6, 12, 13)]) (f_L_call a0 a1 a2 h) 0 [(0, va_rf a0), (1, .int a1), (2, .int a2)] [] h := by
  unfold f_L_call
  refine gk_aload_n (pc := 0) 0 d_L_call_0 rfl ?_
  refine gk_iload_n (pc := 1) 1 d_L_call_1 rfl ?_
  refine gk_iload_n (pc := 2) 2 d_L_call_2 rfl ?_
  refine gk_callVC2 (pc := 3) (d := (d + 11)) (w' := gx_V) (as := [.int a1, .int a2]) (n := 2) (gv := gv_V) 5 d_L_call_3 rfl rfl rfl rfl (Nat.le_of_ble_eq_true rfl) tw_1013 tw_1014 tw_1015 tw_91 cw_A_call hy_A_call (Nat.le_of_ble_eq_true rfl) (p_A_call d a0 a1 a2 h) (fun _ => rfl) (fun _ => rfl) rfl (by decide) (by decide) tw_400 (List.mem_of_getElem? (i := 1) rfl) (by decide) (by decide) tw_311 (List.mem_of_getElem? (i := 0) rfl) (by decide +kernel) (fun _ h1 => ?_) (fun h1 => ?_) (fun h1 => ?_)
  · refine gk_goto (pc := 6) 15 d_L_call_6 rfl ?_
    refine gk_iconst (pc := 15) (0 : Int32) d_L_call_15 rfl ?_
    exact gk_iret (pc := 16) rfl d_L_call_16 rfl
  · refine gk_topR (pc := 9) fun x1 => ?_
    refine gk_astore_n (pc := 9) (L' := [(3, va_rf x1), (0, va_rf a0), (1, .int a1), (2, .int a2)]) d_L_call_9 (Nat.le_of_ble_eq_true rfl) rfl ?_
    refine gk_iconst (pc := 10) (1 : Int32) d_L_call_10 rfl ?_
    exact gk_iret (pc := 11) rfl d_L_call_11 rfl
  · refine gk_topR (pc := 12) fun x2 => ?_
    refine gk_astore_n (pc := 12) (L' := [(3, va_rf x2), (0, va_rf a0), (1, .int a1), (2, .int a2)]) d_L_call_12 (Nat.le_of_ble_eq_true rfl) rfl ?_
    refine gk_iconst (pc := 13) (2 : Int32) d_L_call_13 rfl ?_
    exact gk_iret (pc := 14) rfl d_L_call_14 rfl
theorem p_L_call (d : Nat) (a0 : Option Nat) (a1 : Int32) (a2 : Int32) (h : gk_H) : ∀ r h1, f_L_call a0 a1 a2 h = some (r, h1) → gk_MH (d + 12) y_L_call b_L_call 4 (some .int) [(0, 6, 9, 19), (0, 6, 12, 13)] [va_rf a0, .int a1, .int a2] h (gv_I r) h1 :=
  fun r h1 e => gk_MH_of (by decide +kernel) (by simp [lv_args, gk_cat_rf, gk_catI, gk_catJ, gk_catD, gv_V, gv_I, gv_J, gv_D, gv_R]) (by simp [lg_sl, gk_cat_rf, gk_catI, gk_catJ, gk_catD, gv_V, gv_I, gv_J, gv_D, gv_R]) (w_L_call d a0 a1 a2 h r h1 e)
theorem d_L_operate_0 : decode b_L_operate 0 = .ok (.aload_n 0, 1) := by decide +kernel
theorem d_L_operate_1 : decode b_L_operate 1 = .ok (.iload_n 1, 1) := by decide +kernel
theorem d_L_operate_2 : decode b_L_operate 2 = .ok (.invokevirtual 31, 3) := by decide +kernel
theorem d_L_operate_5 : decode b_L_operate 5 = .ok (.goto 6, 3) := by decide +kernel
theorem d_L_operate_8 : decode b_L_operate 8 = .ok (.astore_n 2, 1) := by decide +kernel
theorem d_L_operate_9 : decode b_L_operate 9 = .ok (.iconst 1, 1) := by decide +kernel
theorem d_L_operate_10 : decode b_L_operate 10 = .ok (.ireturn, 1) := by decide +kernel
theorem d_L_operate_11 : decode b_L_operate 11 = .ok (.iconst 0, 1) := by decide +kernel
theorem d_L_operate_12 : decode b_L_operate 12 = .ok (.ireturn, 1) := by decide +kernel
theorem w_L_operate (d : Nat) (a0 : Option Nat) (a1 : Int32) (h : gk_H) : gk_P gw_I (d + 11) y_L_operate b_L_operate 3 (some .int) (tableOf [(0, 5, 8, 19)]) (f_L_operate a0 a1 h) 0 [(0, va_rf a0), (1, .int a1)] [] h := by
  unfold f_L_operate
  refine gk_aload_n (pc := 0) 0 d_L_operate_0 rfl ?_
  refine gk_iload_n (pc := 1) 1 d_L_operate_1 rfl ?_
  refine gk_callVC1 (pc := 2) (d := (d + 10)) (w' := gx_V) (as := [.int a1]) (n := 1) (gv := gv_V) 5 d_L_operate_2 rfl rfl rfl rfl (Nat.le_of_ble_eq_true rfl) tw_763 tw_764 tw_765 tw_91 cw_A_operate hy_A_operate (Nat.le_of_ble_eq_true rfl) (p_A_operate d a0 a1 h) (fun _ => rfl) (fun _ => rfl) rfl (by decide) (by decide) tw_400 (List.mem_of_getElem? (i := 1) rfl) (fun _ h1 => ?_) (fun h1 => ?_)
  · refine gk_goto (pc := 5) 11 d_L_operate_5 rfl ?_
    refine gk_iconst (pc := 11) (0 : Int32) d_L_operate_11 rfl ?_
    exact gk_iret (pc := 12) rfl d_L_operate_12 rfl
  · refine gk_topR (pc := 8) fun x1 => ?_
    refine gk_astore_n (pc := 8) (L' := [(2, va_rf x1), (0, va_rf a0), (1, .int a1)]) d_L_operate_8 (Nat.le_of_ble_eq_true rfl) rfl ?_
    refine gk_iconst (pc := 9) (1 : Int32) d_L_operate_9 rfl ?_
    exact gk_iret (pc := 10) rfl d_L_operate_10 rfl
theorem p_L_operate (d : Nat) (a0 : Option Nat) (a1 : Int32) (h : gk_H) : ∀ r h1, f_L_operate a0 a1 h = some (r, h1) → gk_MH (d + 11) y_L_operate b_L_operate 3 (some .int) [(0, 5, 8, 19)] [va_rf a0, .int a1] h (gv_I r) h1 :=
  fun r h1 e => gk_MH_of (by decide +kernel) (by simp [lv_args, gk_cat_rf, gk_catI, gk_catJ, gk_catD, gv_V, gv_I, gv_J, gv_D, gv_R]) (by simp [lg_sl, gk_cat_rf, gk_catI, gk_catJ, gk_catD, gv_V, gv_I, gv_J, gv_D, gv_R]) (w_L_operate d a0 a1 h r h1 e)
theorem d_L_array_0 : decode b_L_array 0 = .ok (.aload_n 0, 1) := by decide +kernel
theorem d_L_array_1 : decode b_L_array 1 = .ok (.iload_n 1, 1) := by decide +kernel
theorem d_L_array_2 : decode b_L_array 2 = .ok (.iload_n 2, 1) := by decide +kernel
theorem d_L_array_3 : decode b_L_array 3 = .ok (.invokevirtual 28, 3) := by decide +kernel
theorem d_L_array_6 : decode b_L_array 6 = .ok (.goto 6, 3) := by decide +kernel
theorem d_L_array_9 : decode b_L_array 9 = .ok (.astore_n 3, 1) := by decide +kernel
theorem d_L_array_10 : decode b_L_array 10 = .ok (.iconst 1, 1) := by decide +kernel
theorem d_L_array_11 : decode b_L_array 11 = .ok (.ireturn, 1) := by decide +kernel
theorem d_L_array_12 : decode b_L_array 12 = .ok (.iconst 0, 1) := by decide +kernel
theorem d_L_array_13 : decode b_L_array 13 = .ok (.ireturn, 1) := by decide +kernel
theorem w_L_array (d : Nat) (a0 : Option Nat) (a1 : Int32) (a2 : Int32) (h : gk_H) : gk_P gw_I (d + 11) y_L_array b_L_array 4 (some .int) (tableOf [(0, 6, 9, 19)]) (f_L_array a0 a1 a2 h) 0 [(0, va_rf a0), (1, .int a1), (2, .int a2)] [] h := by
  unfold f_L_array
  refine gk_aload_n (pc := 0) 0 d_L_array_0 rfl ?_
  refine gk_iload_n (pc := 1) 1 d_L_array_1 rfl ?_
  refine gk_iload_n (pc := 2) 2 d_L_array_2 rfl ?_
  refine gk_callVC1 (pc := 3) (d := (d + 10)) (w' := gx_V) (as := [.int a1, .int a2]) (n := 2) (gv := gv_V) 5 d_L_array_3 rfl rfl rfl rfl (Nat.le_of_ble_eq_true rfl) tw_746 tw_747 tw_748 tw_91 cw_A_array hy_A_array (Nat.le_of_ble_eq_true rfl) (p_A_array d a0 a1 a2 h) (fun _ => rfl) (fun _ => rfl) rfl (by decide) (by decide) tw_400 (List.mem_of_getElem? (i := 1) rfl) (fun _ h1 => ?_) (fun h1 => ?_)
  · refine gk_goto (pc := 6) 12 d_L_array_6 rfl ?_
    refine gk_iconst (pc := 12) (0 : Int32) d_L_array_12 rfl ?_
    exact gk_iret (pc := 13) rfl d_L_array_13 rfl
  · refine gk_topR (pc := 9) fun x1 => ?_
    refine gk_astore_n (pc := 9) (L' := [(3, va_rf x1), (0, va_rf a0), (1, .int a1), (2, .int a2)]) d_L_array_9 (Nat.le_of_ble_eq_true rfl) rfl ?_
    refine gk_iconst (pc := 10) (1 : Int32) d_L_array_10 rfl ?_
    exact gk_iret (pc := 11) rfl d_L_array_11 rfl
theorem p_L_array (d : Nat) (a0 : Option Nat) (a1 : Int32) (a2 : Int32) (h : gk_H) : ∀ r h1, f_L_array a0 a1 a2 h = some (r, h1) → gk_MH (d + 11) y_L_array b_L_array 4 (some .int) [(0, 6, 9, 19)] [va_rf a0, .int a1, .int a2] h (gv_I r) h1 :=
  fun r h1 e => gk_MH_of (by decide +kernel) (by simp [lv_args, gk_cat_rf, gk_catI, gk_catJ, gk_catD, gv_V, gv_I, gv_J, gv_D, gv_R]) (by simp [lg_sl, gk_cat_rf, gk_catI, gk_catJ, gk_catD, gv_V, gv_I, gv_J, gv_D, gv_R]) (w_L_array d a0 a1 a2 h r h1 e)
theorem d_L_plain_0 : decode b_L_plain 0 = .ok (.aload_n 0, 1) := by decide +kernel
theorem d_L_plain_1 : decode b_L_plain 1 = .ok (.iload_n 1, 1) := by decide +kernel
theorem d_L_plain_2 : decode b_L_plain 2 = .ok (.iload_n 2, 1) := by decide +kernel
theorem d_L_plain_3 : decode b_L_plain 3 = .ok (.invokevirtual 24, 3) := by decide +kernel
theorem d_L_plain_6 : decode b_L_plain 6 = .ok (.goto 9, 3) := by decide +kernel
theorem d_L_plain_9 : decode b_L_plain 9 = .ok (.astore_n 3, 1) := by decide +kernel
theorem d_L_plain_10 : decode b_L_plain 10 = .ok (.iconst 1, 1) := by decide +kernel
theorem d_L_plain_11 : decode b_L_plain 11 = .ok (.ireturn, 1) := by decide +kernel
theorem d_L_plain_12 : decode b_L_plain 12 = .ok (.astore_n 3, 1) := by decide +kernel
theorem d_L_plain_13 : decode b_L_plain 13 = .ok (.iconst 2, 1) := by decide +kernel
theorem d_L_plain_14 : decode b_L_plain 14 = .ok (.ireturn, 1) := by decide +kernel
theorem d_L_plain_15 : decode b_L_plain 15 = .ok (.iconst 0, 1) := by decide +kernel
theorem d_L_plain_16 : decode b_L_plain 16 = .ok (.ireturn, 1) := by decide +kernel
theorem w_L_plain (d : Nat) (a0 : Option Nat) (a1 : Int32) (a2 : Int32) (h : gk_H) : gk_P gw_I (d + 10) y_L_plain b_L_plain 4 (some .int) (tableOf [(0, 6, 9, 19), (0, 6, 12, 13)]) (f_L_plain a0 a1 a2 h) 0 [(0, va_rf a0), (1, .int a1), (2, .int a2)] [] h := by
  unfold f_L_plain
  refine gk_aload_n (pc := 0) 0 d_L_plain_0 rfl ?_
  refine gk_iload_n (pc := 1) 1 d_L_plain_1 rfl ?_
  refine gk_iload_n (pc := 2) 2 d_L_plain_2 rfl ?_
  refine gk_callVC2 (pc := 3) (d := (d + 9)) (w' := gx_V) (as := [.int a1, .int a2]) (n := 2) (gv := gv_V) 5 d_L_plain_3 rfl rfl rfl rfl (Nat.le_of_ble_eq_true rfl) tw_733 tw_734 tw_735 tw_91 cw_A_plain hy_A_plain (Nat.le_of_ble_eq_true rfl) (p_A_plain d a0 a1 a2 h) (fun _ => rfl) (fun _ => rfl) rfl (by decide) (by decide) tw_400 (List.mem_of_getElem? (i := 1) rfl) (by decide) (by decide) tw_311 (List.mem_of_getElem? (i := 0) rfl) (by decide +kernel) (fun _ h1 => ?_) (fun h1 => ?_) (fun h1 => ?_)
  · refine gk_goto (pc := 6) 15 d_L_plain_6 rfl ?_
    refine gk_iconst (pc := 15) (0 : Int32) d_L_plain_15 rfl ?_
    exact gk_iret (pc := 16) rfl d_L_plain_16 rfl
  · refine gk_topR (pc := 9) fun x1 => ?_
    refine gk_astore_n (pc := 9) (L' := [(3, va_rf x1), (0, va_rf a0), (1, .int a1), (2, .int a2)]) d_L_plain_9 (Nat.le_of_ble_eq_true rfl) rfl ?_
    refine gk_iconst (pc := 10) (1 : Int32) d_L_plain_10 rfl ?_
    exact gk_iret (pc := 11) rfl d_L_plain_11 rfl
  · refine gk_topR (pc := 12) fun x2 => ?_
    refine gk_astore_n (pc := 12) (L' := [(3, va_rf x2), (0, va_rf a0), (1, .int a1), (2, .int a2)]) d_L_plain_12 (Nat.le_of_ble_eq_true rfl) rfl ?_
    refine gk_iconst (pc := 13) (2 : Int32) d_L_plain_13 rfl ?_
    exact gk_iret (pc := 14) rfl d_L_plain_14 rfl
theorem p_L_plain (d : Nat) (a0 : Option Nat) (a1 : Int32) (a2 : Int32) (h : gk_H) : ∀ r h1, f_L_plain a0 a1 a2 h = some (r, h1) → gk_MH (d + 10) y_L_plain b_L_plain 4 (some .int) [(0, 6, 9, 19), (0, 6, 12, 13)] [va_rf a0, .int a1, .int a2] h (gv_I r) h1 :=
  fun r h1 e => gk_MH_of (by decide +kernel) (by simp [lv_args, gk_cat_rf, gk_catI, gk_catJ, gk_catD, gv_V, gv_I, gv_J, gv_D, gv_R]) (by simp [lg_sl, gk_cat_rf, gk_catI, gk_catJ, gk_catD, gv_V, gv_I, gv_J, gv_D, gv_R]) (w_L_plain d a0 a1 a2 h r h1 e)
theorem d_L_text_0 : decode b_L_text 0 = .ok (.aload_n 0, 1) := by decide +kernel
theorem d_L_text_1 : decode b_L_text 1 = .ok (.invokevirtual 21, 3) := by decide +kernel
theorem d_L_text_4 : decode b_L_text 4 = .ok (.goto 6, 3) := by decide +kernel
theorem d_L_text_7 : decode b_L_text 7 = .ok (.astore_n 1, 1) := by decide +kernel
theorem d_L_text_8 : decode b_L_text 8 = .ok (.iconst 1, 1) := by decide +kernel
theorem d_L_text_9 : decode b_L_text 9 = .ok (.ireturn, 1) := by decide +kernel
theorem d_L_text_10 : decode b_L_text 10 = .ok (.iconst 0, 1) := by decide +kernel
theorem d_L_text_11 : decode b_L_text 11 = .ok (.ireturn, 1) := by decide +kernel
theorem w_L_text (d : Nat) (a0 : Option Nat) (h : gk_H) : gk_P gw_I (d + 10) y_L_text b_L_text 2 (some .int) (tableOf [(0, 4, 7, 13)]) (f_L_text a0 h) 0 [(0, va_rf a0)] [] h := by
  unfold f_L_text
  refine gk_aload_n (pc := 0) 0 d_L_text_0 rfl ?_
  refine gk_callVC1 (pc := 1) (d := (d + 9)) (w' := gx_V) (as := []) (n := 0) (gv := gv_V) 5 d_L_text_1 rfl rfl rfl rfl (Nat.le_of_ble_eq_true rfl) tw_527 tw_528 tw_529 tw_91 cw_A_text hy_A_text (Nat.le_of_ble_eq_true rfl) (p_A_text d a0 h) (fun _ => rfl) (fun _ => rfl) rfl (by decide) (by decide) tw_311 (List.mem_of_getElem? (i := 0) rfl) (fun _ h1 => ?_) (fun h1 => ?_)
  · refine gk_goto (pc := 4) 10 d_L_text_4 rfl ?_
    refine gk_iconst (pc := 10) (0 : Int32) d_L_text_10 rfl ?_
    exact gk_iret (pc := 11) rfl d_L_text_11 rfl
  · refine gk_topR (pc := 7) fun x1 => ?_
    refine gk_astore_n (pc := 7) (L' := [(1, va_rf x1), (0, va_rf a0)]) d_L_text_7 (Nat.le_of_ble_eq_true rfl) (by simp [gk_s1, gk_s2, gk_cat_rf, gk_catI, gk_catJ, gk_catD] <;> decide) ?_
    refine gk_iconst (pc := 8) (1 : Int32) d_L_text_8 rfl ?_
    exact gk_iret (pc := 9) rfl d_L_text_9 rfl
theorem p_L_text (d : Nat) (a0 : Option Nat) (h : gk_H) : ∀ r h1, f_L_text a0 h = some (r, h1) → gk_MH (d + 10) y_L_text b_L_text 2 (some .int) [(0, 4, 7, 13)] [va_rf a0] h (gv_I r) h1 :=
  fun r h1 e => gk_MH_of (by decide +kernel) (by simp [lv_args, gk_cat_rf, gk_catI, gk_catJ, gk_catD, gv_V, gv_I, gv_J, gv_D, gv_R]) (by simp [lg_sl, gk_cat_rf, gk_catI, gk_catJ, gk_catD, gv_V, gv_I, gv_J, gv_D, gv_R]) (w_L_text d a0 h r h1 e)
theorem d_L_type_0 : decode b_L_type 0 = .ok (.aload_n 2, 1) := by decide +kernel
theorem d_L_type_1 : decode b_L_type 1 = .ok (.iconst 0, 1) := by decide +kernel
theorem d_L_type_2 : decode b_L_type 2 = .ok (.aload_n 0, 1) := by decide +kernel
theorem d_L_type_3 : decode b_L_type 3 = .ok (.iload_n 1, 1) := by decide +kernel
theorem d_L_type_4 : decode b_L_type 4 = .ok (.invokevirtual 15, 3) := by decide +kernel
theorem d_L_type_7 : decode b_L_type 7 = .ok (.i2l, 1) := by decide +kernel
theorem d_L_type_8 : decode b_L_type 8 = .ok (.lastore, 1) := by decide +kernel
theorem d_L_type_9 : decode b_L_type 9 = .ok (.goto 9, 3) := by decide +kernel
theorem d_L_type_12 : decode b_L_type 12 = .ok (.astore_n 3, 1) := by decide +kernel
theorem d_L_type_13 : decode b_L_type 13 = .ok (.iconst 1, 1) := by decide +kernel
theorem d_L_type_14 : decode b_L_type 14 = .ok (.ireturn, 1) := by decide +kernel
theorem d_L_type_15 : decode b_L_type 15 = .ok (.astore_n 3, 1) := by decide +kernel
theorem d_L_type_16 : decode b_L_type 16 = .ok (.iconst 2, 1) := by decide +kernel
theorem d_L_type_17 : decode b_L_type 17 = .ok (.ireturn, 1) := by decide +kernel
theorem d_L_type_18 : decode b_L_type 18 = .ok (.iconst 0, 1) := by decide +kernel
theorem d_L_type_19 : decode b_L_type 19 = .ok (.ireturn, 1) := by decide +kernel
theorem w_L_type (d : Nat) (a0 : Option Nat) (a1 : Int32) (a2 : Option Nat) (h : gk_H) : gk_P gw_I (d + 9) y_L_type b_L_type 4 (some .int) (tableOf [(0, 9, 12, 19), (0, 9, 15, 13)]) (f_L_type a0 a1 a2 h) 0 [(0, va_rf a0), (1, .int a1), (2, va_rf a2)] [] h := by
  unfold f_L_type
  refine gk_aload_n (pc := 0) 2 d_L_type_0 rfl ?_
  refine gk_iconst (pc := 1) (0 : Int32) d_L_type_1 rfl ?_
  refine gk_aload_n (pc := 2) 0 d_L_type_2 rfl ?_
  refine gk_iload_n (pc := 3) 1 d_L_type_3 rfl ?_
  refine gk_callVC2 (pc := 4) (d := (d + 8)) (w' := gx_I) (as := [.int a1]) (n := 1) (gv := gv_I) 5 d_L_type_4 rfl rfl rfl rfl (by simp [gk_cat_rf, gk_catI, gk_catJ, gk_catD, gv_V, gv_I, gv_J, gv_D, gv_R]) tw_401 tw_402 tw_403 tw_91 cw_A_type hy_A_type (Nat.le_of_ble_eq_true rfl) (p_A_type d a0 a1 h) (fun _ => rfl) (fun _ => rfl) rfl (by decide) (by decide) tw_400 (List.mem_of_getElem? (i := 1) rfl) (by decide) (by decide) tw_311 (List.mem_of_getElem? (i := 0) rfl) (by decide +kernel) (fun x1 h1 => ?_) (fun h1 => ?_) (fun h1 => ?_)
  · refine gk_i2l (pc := 7) d_L_type_7 ?_
    refine gk_last (pc := 8) d_L_type_8 fun h2 => ?_
    refine gk_goto (pc := 9) 18 d_L_type_9 rfl ?_
    refine gk_iconst (pc := 18) (0 : Int32) d_L_type_18 rfl ?_
    exact gk_iret (pc := 19) rfl d_L_type_19 rfl
  · refine gk_topR (pc := 12) fun x2 => ?_
    refine gk_astore_n (pc := 12) (L' := [(3, va_rf x2), (0, va_rf a0), (1, .int a1), (2, va_rf a2)]) d_L_type_12 (Nat.le_of_ble_eq_true rfl) (by simp [gk_s1, gk_s2, gk_cat_rf, gk_catI, gk_catJ, gk_catD] <;> decide) ?_
    refine gk_iconst (pc := 13) (1 : Int32) d_L_type_13 rfl ?_
    exact gk_iret (pc := 14) rfl d_L_type_14 rfl
  · refine gk_topR (pc := 15) fun x3 => ?_
    refine gk_astore_n (pc := 15) (L' := [(3, va_rf x3), (0, va_rf a0), (1, .int a1), (2, va_rf a2)]) d_L_type_15 (Nat.le_of_ble_eq_true rfl) (by simp [gk_s1, gk_s2, gk_cat_rf, gk_catI, gk_catJ, gk_catD] <;> decide) ?_
    refine gk_iconst (pc := 16) (2 : Int32) d_L_type_16 rfl ?_
    exact gk_iret (pc := 17) rfl d_L_type_17 rfl
theorem p_L_type (d : Nat) (a0 : Option Nat) (a1 : Int32) (a2 : Option Nat) (h : gk_H) : ∀ r h1, f_L_type a0 a1 a2 h = some (r, h1) → gk_MH (d + 9) y_L_type b_L_type 4 (some .int) [(0, 9, 12, 19), (0, 9, 15, 13)] [va_rf a0, .int a1, va_rf a2] h (gv_I r) h1 :=
  fun r h1 e => gk_MH_of (by decide +kernel) (by simp [lv_args, gk_cat_rf, gk_catI, gk_catJ, gk_catD, gv_V, gv_I, gv_J, gv_D, gv_R]) (by simp [lg_sl, gk_cat_rf, gk_catI, gk_catJ, gk_catD, gv_V, gv_I, gv_J, gv_D, gv_R]) (w_L_type d a0 a1 a2 h r h1 e)
theorem d_L_number_0 : decode b_L_number 0 = .ok (.aload_n 0, 1) := by decide +kernel
theorem d_L_number_1 : decode b_L_number 1 = .ok (.dload_n 1, 1) := by decide +kernel
theorem d_L_number_2 : decode b_L_number 2 = .ok (.invokevirtual 7, 3) := by decide +kernel
theorem d_L_number_5 : decode b_L_number 5 = .ok (.goto 6, 3) := by decide +kernel
theorem d_L_number_8 : decode b_L_number 8 = .ok (.astore_n 3, 1) := by decide +kernel
theorem d_L_number_9 : decode b_L_number 9 = .ok (.iconst 1, 1) := by decide +kernel
theorem d_L_number_10 : decode b_L_number 10 = .ok (.ireturn, 1) := by decide +kernel
theorem d_L_number_11 : decode b_L_number 11 = .ok (.iconst 0, 1) := by decide +kernel
theorem d_L_number_12 : decode b_L_number 12 = .ok (.ireturn, 1) := by decide +kernel
theorem w_L_number (d : Nat) (a0 : Option Nat) (a1 : UInt64) (h : gk_H) : gk_P gw_I (d + 10) y_L_number b_L_number 4 (some .int) (tableOf [(0, 5, 8, 13)]) (f_L_number a0 a1 h) 0 [(0, va_rf a0), (1, .double a1)] [] h := by
  unfold f_L_number
  refine gk_aload_n (pc := 0) 0 d_L_number_0 rfl ?_
  refine gk_dload_n (pc := 1) 1 d_L_number_1 rfl ?_
  refine gk_callVC1 (pc := 2) (d := (d + 9)) (w' := gx_V) (as := [.double a1]) (n := 1) (gv := gv_V) 5 d_L_number_2 rfl rfl rfl rfl (Nat.le_of_ble_eq_true rfl) tw_312 tw_313 tw_314 tw_91 cw_A_number hy_A_number (Nat.le_of_ble_eq_true rfl) (p_A_number d a0 a1 h) (fun _ => rfl) (fun _ => rfl) rfl (by decide) (by decide) tw_311 (List.mem_of_getElem? (i := 0) rfl) (fun _ h1 => ?_) (fun h1 => ?_)
  · refine gk_goto (pc := 5) 11 d_L_number_5 rfl ?_
    refine gk_iconst (pc := 11) (0 : Int32) d_L_number_11 rfl ?_
    exact gk_iret (pc := 12) rfl d_L_number_12 rfl
  · refine gk_topR (pc := 8) fun x1 => ?_
    refine gk_astore_n (pc := 8) (L' := [(3, va_rf x1), (0, va_rf a0), (1, .double a1)]) d_L_number_8 (Nat.le_of_ble_eq_true rfl) rfl ?_
    refine gk_iconst (pc := 9) (1 : Int32) d_L_number_9 rfl ?_
    exact gk_iret (pc := 10) rfl d_L_number_10 rfl
theorem p_L_number (d : Nat) (a0 : Option Nat) (a1 : UInt64) (h : gk_H) : ∀ r h1, f_L_number a0 a1 h = some (r, h1) → gk_MH (d + 10) y_L_number b_L_number 4 (some .int) [(0, 5, 8, 13)] [va_rf a0, .double a1] h (gv_I r) h1 :=
  fun r h1 e => gk_MH_of (by decide +kernel) (by simp [lv_args, gk_cat_rf, gk_catI, gk_catJ, gk_catD, gv_V, gv_I, gv_J, gv_D, gv_R]) (by simp [lg_sl, gk_cat_rf, gk_catI, gk_catJ, gk_catD, gv_V, gv_I, gv_J, gv_D, gv_R]) (w_L_number d a0 a1 h r h1 e)
theorem d_L_law_0 : decode b_L_law 0 = .ok (.new 8, 3) := by decide +kernel
theorem d_L_law_3 : decode b_L_law 3 = .ok (.dup, 1) := by decide +kernel
theorem d_L_law_4 : decode b_L_law 4 = .ok (.invokespecial 61, 3) := by decide +kernel
theorem d_L_law_7 : decode b_L_law 7 = .ok (.astore_n 1, 1) := by decide +kernel
theorem d_L_law_8 : decode b_L_law 8 = .ok (.new 62, 3) := by decide +kernel
theorem d_L_law_11 : decode b_L_law 11 = .ok (.dup, 1) := by decide +kernel
theorem d_L_law_12 : decode b_L_law 12 = .ok (.invokespecial 64, 3) := by decide +kernel
theorem d_L_law_15 : decode b_L_law 15 = .ok (.astore_n 2, 1) := by decide +kernel
theorem d_L_law_16 : decode b_L_law 16 = .ok (.iconst 1, 1) := by decide +kernel
theorem d_L_law_17 : decode b_L_law 17 = .ok (.newarray .long, 2) := by decide +kernel
theorem d_L_law_19 : decode b_L_law 19 = .ok (.astore_n 3, 1) := by decide +kernel
theorem d_L_law_20 : decode b_L_law 20 = .ok (.iconst 1, 1) := by decide +kernel
theorem d_L_law_21 : decode b_L_law 21 = .ok (.newarray .double, 2) := by decide +kernel
theorem d_L_law_23 : decode b_L_law 23 = .ok (.astore 4, 2) := by decide +kernel
theorem d_L_law_25 : decode b_L_law 25 = .ok (.iconst 0, 1) := by decide +kernel
theorem d_L_law_26 : decode b_L_law 26 = .ok (.istore 5, 2) := by decide +kernel
theorem d_L_law_28 : decode b_L_law 28 = .ok (.iload 5, 2) := by decide +kernel
theorem d_L_law_30 : decode b_L_law 30 = .ok (.aload_n 0, 1) := by decide +kernel
theorem d_L_law_31 : decode b_L_law 31 = .ok (.arraylength, 1) := by decide +kernel
theorem d_L_law_32 : decode b_L_law 32 = .ok (.iconst 5, 1) := by decide +kernel
theorem d_L_law_33 : decode b_L_law 33 = .ok (.isub, 1) := by decide +kernel
theorem d_L_law_34 : decode b_L_law 34 = .ok (.if_icmp .gt 820, 3) := by decide +kernel
theorem d_L_law_37 : decode b_L_law 37 = .ok (.aload_n 0, 1) := by decide +kernel
theorem d_L_law_38 : decode b_L_law 38 = .ok (.iload 5, 2) := by decide +kernel
theorem d_L_law_40 : decode b_L_law 40 = .ok (.iaload, 1) := by decide +kernel
theorem d_L_law_41 : decode b_L_law 41 = .ok (.bipush 15, 2) := by decide +kernel
theorem d_L_law_43 : decode b_L_law 43 = .ok (.iand, 1) := by decide +kernel
theorem d_L_law_44 : decode b_L_law 44 = .ok (.tableswitch 804 0 13 #[72, 118, 174, 198, 246, 294, 330, 378, 402, 438, 451, 519, 611, 712], 72) := by decide +kernel
theorem d_L_law_116 : decode b_L_law 116 = .ok (.aload_n 1, 1) := by decide +kernel
theorem d_L_law_117 : decode b_L_law 117 = .ok (.aload_n 0, 1) := by decide +kernel
theorem d_L_law_118 : decode b_L_law 118 = .ok (.iload 5, 2) := by decide +kernel
theorem d_L_law_120 : decode b_L_law 120 = .ok (.iconst 1, 1) := by decide +kernel
theorem d_L_law_121 : decode b_L_law 121 = .ok (.iadd, 1) := by decide +kernel
theorem d_L_law_122 : decode b_L_law 122 = .ok (.iaload, 1) := by decide +kernel
theorem d_L_law_123 : decode b_L_law 123 = .ok (.i2d, 1) := by decide +kernel
theorem d_L_law_124 : decode b_L_law 124 = .ok (.ldc2_w 65, 3) := by decide +kernel
theorem d_L_law_127 : decode b_L_law 127 = .ok (.dmul, 1) := by decide +kernel
theorem d_L_law_128 : decode b_L_law 128 = .ok (.invokestatic 67, 3) := by decide +kernel
theorem d_L_law_131 : decode b_L_law 131 = .ok (.istore 6, 2) := by decide +kernel
theorem d_L_law_133 : decode b_L_law 133 = .ok (.aload_n 2, 1) := by decide +kernel
theorem d_L_law_134 : decode b_L_law 134 = .ok (.aload_n 0, 1) := by decide +kernel
theorem d_L_law_135 : decode b_L_law 135 = .ok (.iload 5, 2) := by decide +kernel
theorem d_L_law_137 : decode b_L_law 137 = .ok (.iconst 1, 1) := by decide +kernel
theorem d_L_law_138 : decode b_L_law 138 = .ok (.iadd, 1) := by decide +kernel
theorem d_L_law_139 : decode b_L_law 139 = .ok (.iaload, 1) := by decide +kernel
theorem d_L_law_140 : decode b_L_law 140 = .ok (.i2d, 1) := by decide +kernel
theorem d_L_law_141 : decode b_L_law 141 = .ok (.ldc2_w 65, 3) := by decide +kernel
theorem d_L_law_144 : decode b_L_law 144 = .ok (.dmul, 1) := by decide +kernel
theorem d_L_law_145 : decode b_L_law 145 = .ok (.invokevirtual 72, 3) := by decide +kernel
theorem d_L_law_148 : decode b_L_law 148 = .ok (.aload_n 2, 1) := by decide +kernel
theorem d_L_law_149 : decode b_L_law 149 = .ok (.invokevirtual 73, 3) := by decide +kernel
theorem d_L_law_152 : decode b_L_law 152 = .ok (.iload 6, 2) := by decide +kernel
theorem d_L_law_154 : decode b_L_law 154 = .ok (.if_icmp .eq 5, 3) := by decide +kernel
theorem d_L_law_157 : decode b_L_law 157 = .ok (.iconst 0, 1) := by decide +kernel
theorem d_L_law_158 : decode b_L_law 158 = .ok (.ireturn, 1) := by decide +kernel
theorem d_L_law_159 : decode b_L_law 159 = .ok (.goto 689, 3) := by decide +kernel
theorem d_L_law_162 : decode b_L_law 162 = .ok (.aload_n 1, 1) := by decide +kernel
theorem d_L_law_163 : decode b_L_law 163 = .ok (.aload_n 0, 1) := by decide +kernel
theorem d_L_law_164 : decode b_L_law 164 = .ok (.iload 5, 2) := by decide +kernel
theorem d_L_law_166 : decode b_L_law 166 = .ok (.iconst 1, 1) := by decide +kernel
theorem d_L_law_167 : decode b_L_law 167 = .ok (.iadd, 1) := by decide +kernel
theorem d_L_law_168 : decode b_L_law 168 = .ok (.iaload, 1) := by decide +kernel
theorem d_L_law_169 : decode b_L_law 169 = .ok (.aload_n 3, 1) := by decide +kernel
theorem d_L_law_170 : decode b_L_law 170 = .ok (.invokestatic 77, 3) := by decide +kernel
theorem d_L_law_173 : decode b_L_law 173 = .ok (.istore 6, 2) := by decide +kernel
theorem d_L_law_175 : decode b_L_law 175 = .ok (.aload_n 2, 1) := by decide +kernel
theorem d_L_law_176 : decode b_L_law 176 = .ok (.aload_n 0, 1) := by decide +kernel
theorem d_L_law_177 : decode b_L_law 177 = .ok (.iload 5, 2) := by decide +kernel
theorem d_L_law_179 : decode b_L_law 179 = .ok (.iconst 1, 1) := by decide +kernel
theorem d_L_law_180 : decode b_L_law 180 = .ok (.iadd, 1) := by decide +kernel
theorem d_L_law_181 : decode b_L_law 181 = .ok (.iaload, 1) := by decide +kernel
theorem d_L_law_182 : decode b_L_law 182 = .ok (.invokevirtual 80, 3) := by decide +kernel
theorem d_L_law_185 : decode b_L_law 185 = .ok (.istore 7, 2) := by decide +kernel
theorem d_L_law_187 : decode b_L_law 187 = .ok (.aload_n 2, 1) := by decide +kernel
theorem d_L_law_188 : decode b_L_law 188 = .ok (.invokevirtual 73, 3) := by decide +kernel
theorem d_L_law_191 : decode b_L_law 191 = .ok (.iload 6, 2) := by decide +kernel
theorem d_L_law_193 : decode b_L_law 193 = .ok (.if_icmp .eq 5, 3) := by decide +kernel
theorem d_L_law_196 : decode b_L_law 196 = .ok (.iconst 0, 1) := by decide +kernel
theorem d_L_law_197 : decode b_L_law 197 = .ok (.ireturn, 1) := by decide +kernel
theorem d_L_law_198 : decode b_L_law 198 = .ok (.iload 6, 2) := by decide +kernel
theorem d_L_law_200 : decode b_L_law 200 = .ok (.ifCond .ne 15, 3) := by decide +kernel
theorem d_L_law_203 : decode b_L_law 203 = .ok (.aload_n 3, 1) := by decide +kernel
theorem d_L_law_204 : decode b_L_law 204 = .ok (.iconst 0, 1) := by decide +kernel
theorem d_L_law_205 : decode b_L_law 205 = .ok (.laload, 1) := by decide +kernel
theorem d_L_law_206 : decode b_L_law 206 = .ok (.iload 7, 2) := by decide +kernel
theorem d_L_law_208 : decode b_L_law 208 = .ok (.i2l, 1) := by decide +kernel
theorem d_L_law_209 : decode b_L_law 209 = .ok (.lcmp, 1) := by decide +kernel
theorem d_L_law_210 : decode b_L_law 210 = .ok (.ifCond .eq 5, 3) := by decide +kernel
theorem d_L_law_213 : decode b_L_law 213 = .ok (.iconst 0, 1) := by decide +kernel
theorem d_L_law_214 : decode b_L_law 214 = .ok (.ireturn, 1) := by decide +kernel
theorem d_L_law_215 : decode b_L_law 215 = .ok (.goto 633, 3) := by decide +kernel
theorem d_L_law_218 : decode b_L_law 218 = .ok (.aload_n 1, 1) := by decide +kernel
theorem d_L_law_219 : decode b_L_law 219 = .ok (.invokestatic 81, 3) := by decide +kernel
theorem d_L_law_222 : decode b_L_law 222 = .ok (.istore 6, 2) := by decide +kernel
theorem d_L_law_224 : decode b_L_law 224 = .ok (.aload_n 2, 1) := by decide +kernel
theorem d_L_law_225 : decode b_L_law 225 = .ok (.invokevirtual 84, 3) := by decide +kernel
theorem d_L_law_228 : decode b_L_law 228 = .ok (.aload_n 2, 1) := by decide +kernel
theorem d_L_law_229 : decode b_L_law 229 = .ok (.invokevirtual 73, 3) := by decide +kernel
theorem d_L_law_232 : decode b_L_law 232 = .ok (.iload 6, 2) := by decide +kernel
theorem d_L_law_234 : decode b_L_law 234 = .ok (.if_icmp .eq 5, 3) := by decide +kernel
theorem d_L_law_237 : decode b_L_law 237 = .ok (.iconst 0, 1) := by decide +kernel
theorem d_L_law_238 : decode b_L_law 238 = .ok (.ireturn, 1) := by decide +kernel
theorem d_L_law_239 : decode b_L_law 239 = .ok (.goto 609, 3) := by decide +kernel
theorem d_L_law_242 : decode b_L_law 242 = .ok (.aload_n 1, 1) := by decide +kernel
theorem d_L_law_243 : decode b_L_law 243 = .ok (.aload_n 0, 1) := by decide +kernel
theorem d_L_law_244 : decode b_L_law 244 = .ok (.iload 5, 2) := by decide +kernel
theorem d_L_law_246 : decode b_L_law 246 = .ok (.iconst 1, 1) := by decide +kernel
theorem d_L_law_247 : decode b_L_law 247 = .ok (.iadd, 1) := by decide +kernel
theorem d_L_law_248 : decode b_L_law 248 = .ok (.iaload, 1) := by decide +kernel
theorem d_L_law_249 : decode b_L_law 249 = .ok (.aload_n 0, 1) := by decide +kernel
theorem d_L_law_250 : decode b_L_law 250 = .ok (.iload 5, 2) := by decide +kernel
theorem d_L_law_252 : decode b_L_law 252 = .ok (.iconst 2, 1) := by decide +kernel
theorem d_L_law_253 : decode b_L_law 253 = .ok (.iadd, 1) := by decide +kernel
theorem d_L_law_254 : decode b_L_law 254 = .ok (.iaload, 1) := by decide +kernel
theorem d_L_law_255 : decode b_L_law 255 = .ok (.invokestatic 85, 3) := by decide +kernel
theorem d_L_law_258 : decode b_L_law 258 = .ok (.istore 6, 2) := by decide +kernel
theorem d_L_law_260 : decode b_L_law 260 = .ok (.aload_n 2, 1) := by decide +kernel
theorem d_L_law_261 : decode b_L_law 261 = .ok (.aload_n 0, 1) := by decide +kernel
theorem d_L_law_262 : decode b_L_law 262 = .ok (.iload 5, 2) := by decide +kernel
theorem d_L_law_264 : decode b_L_law 264 = .ok (.iconst 1, 1) := by decide +kernel
theorem d_L_law_265 : decode b_L_law 265 = .ok (.iadd, 1) := by decide +kernel
theorem d_L_law_266 : decode b_L_law 266 = .ok (.iaload, 1) := by decide +kernel
theorem d_L_law_267 : decode b_L_law 267 = .ok (.aload_n 0, 1) := by decide +kernel
theorem d_L_law_268 : decode b_L_law 268 = .ok (.iload 5, 2) := by decide +kernel
theorem d_L_law_270 : decode b_L_law 270 = .ok (.iconst 2, 1) := by decide +kernel
theorem d_L_law_271 : decode b_L_law 271 = .ok (.iadd, 1) := by decide +kernel
theorem d_L_law_272 : decode b_L_law 272 = .ok (.iaload, 1) := by decide +kernel
theorem d_L_law_273 : decode b_L_law 273 = .ok (.invokevirtual 88, 3) := by decide +kernel
theorem d_L_law_276 : decode b_L_law 276 = .ok (.aload_n 2, 1) := by decide +kernel
theorem d_L_law_277 : decode b_L_law 277 = .ok (.invokevirtual 73, 3) := by decide +kernel
theorem d_L_law_280 : decode b_L_law 280 = .ok (.iload 6, 2) := by decide +kernel
theorem d_L_law_282 : decode b_L_law 282 = .ok (.if_icmp .eq 5, 3) := by decide +kernel
theorem d_L_law_285 : decode b_L_law 285 = .ok (.iconst 0, 1) := by decide +kernel
theorem d_L_law_286 : decode b_L_law 286 = .ok (.ireturn, 1) := by decide +kernel
theorem d_L_law_287 : decode b_L_law 287 = .ok (.goto 561, 3) := by decide +kernel
theorem d_L_law_290 : decode b_L_law 290 = .ok (.aload_n 1, 1) := by decide +kernel
theorem d_L_law_291 : decode b_L_law 291 = .ok (.aload_n 0, 1) := by decide +kernel
theorem d_L_law_292 : decode b_L_law 292 = .ok (.iload 5, 2) := by decide +kernel
theorem d_L_law_294 : decode b_L_law 294 = .ok (.iconst 1, 1) := by decide +kernel
theorem d_L_law_295 : decode b_L_law 295 = .ok (.iadd, 1) := by decide +kernel
theorem d_L_law_296 : decode b_L_law 296 = .ok (.iaload, 1) := by decide +kernel
theorem d_L_law_297 : decode b_L_law 297 = .ok (.aload_n 0, 1) := by decide +kernel
theorem d_L_law_298 : decode b_L_law 298 = .ok (.iload 5, 2) := by decide +kernel
theorem d_L_law_300 : decode b_L_law 300 = .ok (.iconst 2, 1) := by decide +kernel
theorem d_L_law_301 : decode b_L_law 301 = .ok (.iadd, 1) := by decide +kernel
theorem d_L_law_302 : decode b_L_law 302 = .ok (.iaload, 1) := by decide +kernel
theorem d_L_law_303 : decode b_L_law 303 = .ok (.invokestatic 89, 3) := by decide +kernel
theorem d_L_law_306 : decode b_L_law 306 = .ok (.istore 6, 2) := by decide +kernel
theorem d_L_law_308 : decode b_L_law 308 = .ok (.aload_n 2, 1) := by decide +kernel
theorem d_L_law_309 : decode b_L_law 309 = .ok (.aload_n 0, 1) := by decide +kernel
theorem d_L_law_310 : decode b_L_law 310 = .ok (.iload 5, 2) := by decide +kernel
theorem d_L_law_312 : decode b_L_law 312 = .ok (.iconst 1, 1) := by decide +kernel
theorem d_L_law_313 : decode b_L_law 313 = .ok (.iadd, 1) := by decide +kernel
theorem d_L_law_314 : decode b_L_law 314 = .ok (.iaload, 1) := by decide +kernel
theorem d_L_law_315 : decode b_L_law 315 = .ok (.aload_n 0, 1) := by decide +kernel
theorem d_L_law_316 : decode b_L_law 316 = .ok (.iload 5, 2) := by decide +kernel
theorem d_L_law_318 : decode b_L_law 318 = .ok (.iconst 2, 1) := by decide +kernel
theorem d_L_law_319 : decode b_L_law 319 = .ok (.iadd, 1) := by decide +kernel
theorem d_L_law_320 : decode b_L_law 320 = .ok (.iaload, 1) := by decide +kernel
theorem d_L_law_321 : decode b_L_law 321 = .ok (.invokevirtual 91, 3) := by decide +kernel
theorem d_L_law_324 : decode b_L_law 324 = .ok (.aload_n 2, 1) := by decide +kernel
theorem d_L_law_325 : decode b_L_law 325 = .ok (.invokevirtual 73, 3) := by decide +kernel
theorem d_L_law_328 : decode b_L_law 328 = .ok (.iload 6, 2) := by decide +kernel
theorem d_L_law_330 : decode b_L_law 330 = .ok (.if_icmp .eq 5, 3) := by decide +kernel
theorem d_L_law_333 : decode b_L_law 333 = .ok (.iconst 0, 1) := by decide +kernel
theorem d_L_law_334 : decode b_L_law 334 = .ok (.ireturn, 1) := by decide +kernel
theorem d_L_law_335 : decode b_L_law 335 = .ok (.goto 513, 3) := by decide +kernel
theorem d_L_law_338 : decode b_L_law 338 = .ok (.aload_n 1, 1) := by decide +kernel
theorem d_L_law_339 : decode b_L_law 339 = .ok (.aload_n 0, 1) := by decide +kernel
theorem d_L_law_340 : decode b_L_law 340 = .ok (.iload 5, 2) := by decide +kernel
theorem d_L_law_342 : decode b_L_law 342 = .ok (.iconst 1, 1) := by decide +kernel
theorem d_L_law_343 : decode b_L_law 343 = .ok (.iadd, 1) := by decide +kernel
theorem d_L_law_344 : decode b_L_law 344 = .ok (.iaload, 1) := by decide +kernel
theorem d_L_law_345 : decode b_L_law 345 = .ok (.invokestatic 92, 3) := by decide +kernel
theorem d_L_law_348 : decode b_L_law 348 = .ok (.istore 6, 2) := by decide +kernel
theorem d_L_law_350 : decode b_L_law 350 = .ok (.aload_n 2, 1) := by decide +kernel
theorem d_L_law_351 : decode b_L_law 351 = .ok (.aload_n 0, 1) := by decide +kernel
theorem d_L_law_352 : decode b_L_law 352 = .ok (.iload 5, 2) := by decide +kernel
theorem d_L_law_354 : decode b_L_law 354 = .ok (.iconst 1, 1) := by decide +kernel
theorem d_L_law_355 : decode b_L_law 355 = .ok (.iadd, 1) := by decide +kernel
theorem d_L_law_356 : decode b_L_law 356 = .ok (.iaload, 1) := by decide +kernel
theorem d_L_law_357 : decode b_L_law 357 = .ok (.invokevirtual 95, 3) := by decide +kernel
theorem d_L_law_360 : decode b_L_law 360 = .ok (.aload_n 2, 1) := by decide +kernel
theorem d_L_law_361 : decode b_L_law 361 = .ok (.invokevirtual 73, 3) := by decide +kernel
theorem d_L_law_364 : decode b_L_law 364 = .ok (.iload 6, 2) := by decide +kernel
theorem d_L_law_366 : decode b_L_law 366 = .ok (.if_icmp .eq 5, 3) := by decide +kernel
theorem d_L_law_369 : decode b_L_law 369 = .ok (.iconst 0, 1) := by decide +kernel
theorem d_L_law_370 : decode b_L_law 370 = .ok (.ireturn, 1) := by decide +kernel
theorem d_L_law_371 : decode b_L_law 371 = .ok (.goto 477, 3) := by decide +kernel
theorem d_L_law_374 : decode b_L_law 374 = .ok (.aload_n 1, 1) := by decide +kernel
theorem d_L_law_375 : decode b_L_law 375 = .ok (.aload_n 0, 1) := by decide +kernel
theorem d_L_law_376 : decode b_L_law 376 = .ok (.iload 5, 2) := by decide +kernel
theorem d_L_law_378 : decode b_L_law 378 = .ok (.iconst 1, 1) := by decide +kernel
theorem d_L_law_379 : decode b_L_law 379 = .ok (.iadd, 1) := by decide +kernel
theorem d_L_law_380 : decode b_L_law 380 = .ok (.iaload, 1) := by decide +kernel
theorem d_L_law_381 : decode b_L_law 381 = .ok (.aload_n 0, 1) := by decide +kernel
theorem d_L_law_382 : decode b_L_law 382 = .ok (.iload 5, 2) := by decide +kernel
theorem d_L_law_384 : decode b_L_law 384 = .ok (.iconst 2, 1) := by decide +kernel
theorem d_L_law_385 : decode b_L_law 385 = .ok (.iadd, 1) := by decide +kernel
theorem d_L_law_386 : decode b_L_law 386 = .ok (.iaload, 1) := by decide +kernel
theorem d_L_law_387 : decode b_L_law 387 = .ok (.invokestatic 96, 3) := by decide +kernel
theorem d_L_law_390 : decode b_L_law 390 = .ok (.istore 6, 2) := by decide +kernel
theorem d_L_law_392 : decode b_L_law 392 = .ok (.aload_n 2, 1) := by decide +kernel
theorem d_L_law_393 : decode b_L_law 393 = .ok (.aload_n 0, 1) := by decide +kernel
theorem d_L_law_394 : decode b_L_law 394 = .ok (.iload 5, 2) := by decide +kernel
theorem d_L_law_396 : decode b_L_law 396 = .ok (.iconst 1, 1) := by decide +kernel
theorem d_L_law_397 : decode b_L_law 397 = .ok (.iadd, 1) := by decide +kernel
theorem d_L_law_398 : decode b_L_law 398 = .ok (.iaload, 1) := by decide +kernel
theorem d_L_law_399 : decode b_L_law 399 = .ok (.aload_n 0, 1) := by decide +kernel
theorem d_L_law_400 : decode b_L_law 400 = .ok (.iload 5, 2) := by decide +kernel
theorem d_L_law_402 : decode b_L_law 402 = .ok (.iconst 2, 1) := by decide +kernel
theorem d_L_law_403 : decode b_L_law 403 = .ok (.iadd, 1) := by decide +kernel
theorem d_L_law_404 : decode b_L_law 404 = .ok (.iaload, 1) := by decide +kernel
theorem d_L_law_405 : decode b_L_law 405 = .ok (.invokevirtual 98, 3) := by decide +kernel
theorem d_L_law_408 : decode b_L_law 408 = .ok (.aload_n 2, 1) := by decide +kernel
theorem d_L_law_409 : decode b_L_law 409 = .ok (.invokevirtual 73, 3) := by decide +kernel
theorem d_L_law_412 : decode b_L_law 412 = .ok (.iload 6, 2) := by decide +kernel
theorem d_L_law_414 : decode b_L_law 414 = .ok (.if_icmp .eq 5, 3) := by decide +kernel
theorem d_L_law_417 : decode b_L_law 417 = .ok (.iconst 0, 1) := by decide +kernel
theorem d_L_law_418 : decode b_L_law 418 = .ok (.ireturn, 1) := by decide +kernel
theorem d_L_law_419 : decode b_L_law 419 = .ok (.goto 429, 3) := by decide +kernel
theorem d_L_law_422 : decode b_L_law 422 = .ok (.aload_n 1, 1) := by decide +kernel
theorem d_L_law_423 : decode b_L_law 423 = .ok (.invokestatic 99, 3) := by decide +kernel
theorem d_L_law_426 : decode b_L_law 426 = .ok (.istore 6, 2) := by decide +kernel
theorem d_L_law_428 : decode b_L_law 428 = .ok (.aload_n 2, 1) := by decide +kernel
theorem d_L_law_429 : decode b_L_law 429 = .ok (.invokevirtual 101, 3) := by decide +kernel
theorem d_L_law_432 : decode b_L_law 432 = .ok (.aload_n 2, 1) := by decide +kernel
theorem d_L_law_433 : decode b_L_law 433 = .ok (.invokevirtual 73, 3) := by decide +kernel
theorem d_L_law_436 : decode b_L_law 436 = .ok (.iload 6, 2) := by decide +kernel
theorem d_L_law_438 : decode b_L_law 438 = .ok (.if_icmp .eq 5, 3) := by decide +kernel
theorem d_L_law_441 : decode b_L_law 441 = .ok (.iconst 0, 1) := by decide +kernel
theorem d_L_law_442 : decode b_L_law 442 = .ok (.ireturn, 1) := by decide +kernel
theorem d_L_law_443 : decode b_L_law 443 = .ok (.goto 405, 3) := by decide +kernel
theorem d_L_law_446 : decode b_L_law 446 = .ok (.aload_n 1, 1) := by decide +kernel
theorem d_L_law_447 : decode b_L_law 447 = .ok (.aload_n 0, 1) := by decide +kernel
theorem d_L_law_448 : decode b_L_law 448 = .ok (.iload 5, 2) := by decide +kernel
theorem d_L_law_450 : decode b_L_law 450 = .ok (.iconst 1, 1) := by decide +kernel
theorem d_L_law_451 : decode b_L_law 451 = .ok (.iadd, 1) := by decide +kernel
theorem d_L_law_452 : decode b_L_law 452 = .ok (.iaload, 1) := by decide +kernel
theorem d_L_law_453 : decode b_L_law 453 = .ok (.invokestatic 102, 3) := by decide +kernel
theorem d_L_law_456 : decode b_L_law 456 = .ok (.istore 6, 2) := by decide +kernel
theorem d_L_law_458 : decode b_L_law 458 = .ok (.aload_n 2, 1) := by decide +kernel
theorem d_L_law_459 : decode b_L_law 459 = .ok (.aload_n 0, 1) := by decide +kernel
theorem d_L_law_460 : decode b_L_law 460 = .ok (.iload 5, 2) := by decide +kernel
theorem d_L_law_462 : decode b_L_law 462 = .ok (.iconst 1, 1) := by decide +kernel
theorem d_L_law_463 : decode b_L_law 463 = .ok (.iadd, 1) := by decide +kernel
theorem d_L_law_464 : decode b_L_law 464 = .ok (.iaload, 1) := by decide +kernel
theorem d_L_law_465 : decode b_L_law 465 = .ok (.invokevirtual 104, 3) := by decide +kernel
theorem d_L_law_468 : decode b_L_law 468 = .ok (.aload_n 2, 1) := by decide +kernel
theorem d_L_law_469 : decode b_L_law 469 = .ok (.invokevirtual 73, 3) := by decide +kernel
theorem d_L_law_472 : decode b_L_law 472 = .ok (.iload 6, 2) := by decide +kernel
theorem d_L_law_474 : decode b_L_law 474 = .ok (.if_icmp .eq 5, 3) := by decide +kernel
theorem d_L_law_477 : decode b_L_law 477 = .ok (.iconst 0, 1) := by decide +kernel
theorem d_L_law_478 : decode b_L_law 478 = .ok (.ireturn, 1) := by decide +kernel
theorem d_L_law_479 : decode b_L_law 479 = .ok (.goto 369, 3) := by decide +kernel
theorem d_L_law_482 : decode b_L_law 482 = .ok (.aload_n 1, 1) := by decide +kernel
theorem d_L_law_483 : decode b_L_law 483 = .ok (.invokevirtual 105, 3) := by decide +kernel
theorem d_L_law_486 : decode b_L_law 486 = .ok (.aload_n 2, 1) := by decide +kernel
theorem d_L_law_487 : decode b_L_law 487 = .ok (.invokevirtual 108, 3) := by decide +kernel
theorem d_L_law_490 : decode b_L_law 490 = .ok (.if_icmp .eq 358, 3) := by decide +kernel
theorem d_L_law_493 : decode b_L_law 493 = .ok (.iconst 0, 1) := by decide +kernel
theorem d_L_law_494 : decode b_L_law 494 = .ok (.ireturn, 1) := by decide +kernel
theorem d_L_law_495 : decode b_L_law 495 = .ok (.aload_n 1, 1) := by decide +kernel
theorem d_L_law_496 : decode b_L_law 496 = .ok (.aload_n 0, 1) := by decide +kernel
theorem d_L_law_497 : decode b_L_law 497 = .ok (.iload 5, 2) := by decide +kernel
theorem d_L_law_499 : decode b_L_law 499 = .ok (.iconst 1, 1) := by decide +kernel
theorem d_L_law_500 : decode b_L_law 500 = .ok (.iadd, 1) := by decide +kernel
theorem d_L_law_501 : decode b_L_law 501 = .ok (.iaload, 1) := by decide +kernel
theorem d_L_law_502 : decode b_L_law 502 = .ok (.aload_n 0, 1) := by decide +kernel
theorem d_L_law_503 : decode b_L_law 503 = .ok (.iload 5, 2) := by decide +kernel
theorem d_L_law_505 : decode b_L_law 505 = .ok (.iconst 2, 1) := by decide +kernel
theorem d_L_law_506 : decode b_L_law 506 = .ok (.iadd, 1) := by decide +kernel
theorem d_L_law_507 : decode b_L_law 507 = .ok (.iaload, 1) := by decide +kernel
theorem d_L_law_508 : decode b_L_law 508 = .ok (.aload_n 3, 1) := by decide +kernel
theorem d_L_law_509 : decode b_L_law 509 = .ok (.invokestatic 109, 3) := by decide +kernel
theorem d_L_law_512 : decode b_L_law 512 = .ok (.istore 6, 2) := by decide +kernel
theorem d_L_law_514 : decode b_L_law 514 = .ok (.aload_n 2, 1) := by decide +kernel
theorem d_L_law_515 : decode b_L_law 515 = .ok (.aload_n 0, 1) := by decide +kernel
theorem d_L_law_516 : decode b_L_law 516 = .ok (.iload 5, 2) := by decide +kernel
theorem d_L_law_518 : decode b_L_law 518 = .ok (.iconst 1, 1) := by decide +kernel
theorem d_L_law_519 : decode b_L_law 519 = .ok (.iadd, 1) := by decide +kernel
theorem d_L_law_520 : decode b_L_law 520 = .ok (.iaload, 1) := by decide +kernel
theorem d_L_law_521 : decode b_L_law 521 = .ok (.aload_n 0, 1) := by decide +kernel
theorem d_L_law_522 : decode b_L_law 522 = .ok (.iload 5, 2) := by decide +kernel
theorem d_L_law_524 : decode b_L_law 524 = .ok (.iconst 2, 1) := by decide +kernel
theorem d_L_law_525 : decode b_L_law 525 = .ok (.iadd, 1) := by decide +kernel
theorem d_L_law_526 : decode b_L_law 526 = .ok (.iaload, 1) := by decide +kernel
theorem d_L_law_527 : decode b_L_law 527 = .ok (.invokevirtual 112, 3) := by decide +kernel
theorem d_L_law_530 : decode b_L_law 530 = .ok (.istore 7, 2) := by decide +kernel
theorem d_L_law_532 : decode b_L_law 532 = .ok (.aload_n 2, 1) := by decide +kernel
theorem d_L_law_533 : decode b_L_law 533 = .ok (.invokevirtual 73, 3) := by decide +kernel
theorem d_L_law_536 : decode b_L_law 536 = .ok (.iload 6, 2) := by decide +kernel
theorem d_L_law_538 : decode b_L_law 538 = .ok (.if_icmp .eq 5, 3) := by decide +kernel
theorem d_L_law_541 : decode b_L_law 541 = .ok (.iconst 0, 1) := by decide +kernel
theorem d_L_law_542 : decode b_L_law 542 = .ok (.ireturn, 1) := by decide +kernel
theorem d_L_law_543 : decode b_L_law 543 = .ok (.iload 6, 2) := by decide +kernel
theorem d_L_law_545 : decode b_L_law 545 = .ok (.ifCond .ne 15, 3) := by decide +kernel
theorem d_L_law_548 : decode b_L_law 548 = .ok (.aload_n 3, 1) := by decide +kernel
theorem d_L_law_549 : decode b_L_law 549 = .ok (.iconst 0, 1) := by decide +kernel
theorem d_L_law_550 : decode b_L_law 550 = .ok (.laload, 1) := by decide +kernel
theorem d_L_law_551 : decode b_L_law 551 = .ok (.iload 7, 2) := by decide +kernel
theorem d_L_law_553 : decode b_L_law 553 = .ok (.i2l, 1) := by decide +kernel
theorem d_L_law_554 : decode b_L_law 554 = .ok (.lcmp, 1) := by decide +kernel
theorem d_L_law_555 : decode b_L_law 555 = .ok (.ifCond .eq 5, 3) := by decide +kernel
theorem d_L_law_558 : decode b_L_law 558 = .ok (.iconst 0, 1) := by decide +kernel
theorem d_L_law_559 : decode b_L_law 559 = .ok (.ireturn, 1) := by decide +kernel
theorem d_L_law_560 : decode b_L_law 560 = .ok (.goto 288, 3) := by decide +kernel
theorem d_L_law_563 : decode b_L_law 563 = .ok (.aload_n 1, 1) := by decide +kernel
theorem d_L_law_564 : decode b_L_law 564 = .ok (.aload_n 0, 1) := by decide +kernel
theorem d_L_law_565 : decode b_L_law 565 = .ok (.iload 5, 2) := by decide +kernel
theorem d_L_law_567 : decode b_L_law 567 = .ok (.iconst 1, 1) := by decide +kernel
theorem d_L_law_568 : decode b_L_law 568 = .ok (.iadd, 1) := by decide +kernel
theorem d_L_law_569 : decode b_L_law 569 = .ok (.iaload, 1) := by decide +kernel
theorem d_L_law_570 : decode b_L_law 570 = .ok (.aload_n 0, 1) := by decide +kernel
theorem d_L_law_571 : decode b_L_law 571 = .ok (.iload 5, 2) := by decide +kernel
theorem d_L_law_573 : decode b_L_law 573 = .ok (.iconst 2, 1) := by decide +kernel
theorem d_L_law_574 : decode b_L_law 574 = .ok (.iadd, 1) := by decide +kernel
theorem d_L_law_575 : decode b_L_law 575 = .ok (.iaload, 1) := by decide +kernel
theorem d_L_law_576 : decode b_L_law 576 = .ok (.aload_n 0, 1) := by decide +kernel
theorem d_L_law_577 : decode b_L_law 577 = .ok (.iload 5, 2) := by decide +kernel
theorem d_L_law_579 : decode b_L_law 579 = .ok (.iconst 3, 1) := by decide +kernel
theorem d_L_law_580 : decode b_L_law 580 = .ok (.iadd, 1) := by decide +kernel
theorem d_L_law_581 : decode b_L_law 581 = .ok (.iaload, 1) := by decide +kernel
theorem d_L_law_582 : decode b_L_law 582 = .ok (.aload_n 0, 1) := by decide +kernel
theorem d_L_law_583 : decode b_L_law 583 = .ok (.iload 5, 2) := by decide +kernel
theorem d_L_law_585 : decode b_L_law 585 = .ok (.iconst 4, 1) := by decide +kernel
theorem d_L_law_586 : decode b_L_law 586 = .ok (.iadd, 1) := by decide +kernel
theorem d_L_law_587 : decode b_L_law 587 = .ok (.iaload, 1) := by decide +kernel
theorem d_L_law_588 : decode b_L_law 588 = .ok (.aload_n 3, 1) := by decide +kernel
theorem d_L_law_589 : decode b_L_law 589 = .ok (.invokestatic 113, 3) := by decide +kernel
theorem d_L_law_592 : decode b_L_law 592 = .ok (.istore 6, 2) := by decide +kernel
theorem d_L_law_594 : decode b_L_law 594 = .ok (.aload_n 2, 1) := by decide +kernel
theorem d_L_law_595 : decode b_L_law 595 = .ok (.aload_n 0, 1) := by decide +kernel
theorem d_L_law_596 : decode b_L_law 596 = .ok (.iload 5, 2) := by decide +kernel
theorem d_L_law_598 : decode b_L_law 598 = .ok (.iconst 1, 1) := by decide +kernel
theorem d_L_law_599 : decode b_L_law 599 = .ok (.iadd, 1) := by decide +kernel
theorem d_L_law_600 : decode b_L_law 600 = .ok (.iaload, 1) := by decide +kernel
theorem d_L_law_601 : decode b_L_law 601 = .ok (.aload_n 0, 1) := by decide +kernel
theorem d_L_law_602 : decode b_L_law 602 = .ok (.iload 5, 2) := by decide +kernel
theorem d_L_law_604 : decode b_L_law 604 = .ok (.iconst 2, 1) := by decide +kernel
theorem d_L_law_605 : decode b_L_law 605 = .ok (.iadd, 1) := by decide +kernel
theorem d_L_law_606 : decode b_L_law 606 = .ok (.iaload, 1) := by decide +kernel
theorem d_L_law_607 : decode b_L_law 607 = .ok (.aload_n 0, 1) := by decide +kernel
theorem d_L_law_608 : decode b_L_law 608 = .ok (.iload 5, 2) := by decide +kernel
theorem d_L_law_610 : decode b_L_law 610 = .ok (.iconst 3, 1) := by decide +kernel
theorem d_L_law_611 : decode b_L_law 611 = .ok (.iadd, 1) := by decide +kernel
theorem d_L_law_612 : decode b_L_law 612 = .ok (.iaload, 1) := by decide +kernel
theorem d_L_law_613 : decode b_L_law 613 = .ok (.aload_n 0, 1) := by decide +kernel
theorem d_L_law_614 : decode b_L_law 614 = .ok (.iload 5, 2) := by decide +kernel
theorem d_L_law_616 : decode b_L_law 616 = .ok (.iconst 4, 1) := by decide +kernel
theorem d_L_law_617 : decode b_L_law 617 = .ok (.iadd, 1) := by decide +kernel
theorem d_L_law_618 : decode b_L_law 618 = .ok (.iaload, 1) := by decide +kernel
theorem d_L_law_619 : decode b_L_law 619 = .ok (.invokevirtual 116, 3) := by decide +kernel
theorem d_L_law_622 : decode b_L_law 622 = .ok (.istore 7, 2) := by decide +kernel
theorem d_L_law_624 : decode b_L_law 624 = .ok (.aload_n 2, 1) := by decide +kernel
theorem d_L_law_625 : decode b_L_law 625 = .ok (.invokevirtual 73, 3) := by decide +kernel
theorem d_L_law_628 : decode b_L_law 628 = .ok (.iload 6, 2) := by decide +kernel
theorem d_L_law_630 : decode b_L_law 630 = .ok (.if_icmp .eq 5, 3) := by decide +kernel
theorem d_L_law_633 : decode b_L_law 633 = .ok (.iconst 0, 1) := by decide +kernel
theorem d_L_law_634 : decode b_L_law 634 = .ok (.ireturn, 1) := by decide +kernel
theorem d_L_law_635 : decode b_L_law 635 = .ok (.iload 6, 2) := by decide +kernel
theorem d_L_law_637 : decode b_L_law 637 = .ok (.ifCond .ne 15, 3) := by decide +kernel
theorem d_L_law_640 : decode b_L_law 640 = .ok (.aload_n 3, 1) := by decide +kernel
theorem d_L_law_641 : decode b_L_law 641 = .ok (.iconst 0, 1) := by decide +kernel
theorem d_L_law_642 : decode b_L_law 642 = .ok (.laload, 1) := by decide +kernel
theorem d_L_law_643 : decode b_L_law 643 = .ok (.iload 7, 2) := by decide +kernel
theorem d_L_law_645 : decode b_L_law 645 = .ok (.i2l, 1) := by decide +kernel
theorem d_L_law_646 : decode b_L_law 646 = .ok (.lcmp, 1) := by decide +kernel
theorem d_L_law_647 : decode b_L_law 647 = .ok (.ifCond .eq 5, 3) := by decide +kernel
theorem d_L_law_650 : decode b_L_law 650 = .ok (.iconst 0, 1) := by decide +kernel
theorem d_L_law_651 : decode b_L_law 651 = .ok (.ireturn, 1) := by decide +kernel
theorem d_L_law_652 : decode b_L_law 652 = .ok (.goto 196, 3) := by decide +kernel
theorem d_L_law_655 : decode b_L_law 655 = .ok (.aload_n 1, 1) := by decide +kernel
theorem d_L_law_656 : decode b_L_law 656 = .ok (.aload_n 0, 1) := by decide +kernel
theorem d_L_law_657 : decode b_L_law 657 = .ok (.iload 5, 2) := by decide +kernel
theorem d_L_law_659 : decode b_L_law 659 = .ok (.iconst 1, 1) := by decide +kernel
theorem d_L_law_660 : decode b_L_law 660 = .ok (.iadd, 1) := by decide +kernel
theorem d_L_law_661 : decode b_L_law 661 = .ok (.iaload, 1) := by decide +kernel
theorem d_L_law_662 : decode b_L_law 662 = .ok (.aload_n 0, 1) := by decide +kernel
theorem d_L_law_663 : decode b_L_law 663 = .ok (.iload 5, 2) := by decide +kernel
theorem d_L_law_665 : decode b_L_law 665 = .ok (.iconst 2, 1) := by decide +kernel
theorem d_L_law_666 : decode b_L_law 666 = .ok (.iadd, 1) := by decide +kernel
theorem d_L_law_667 : decode b_L_law 667 = .ok (.iaload, 1) := by decide +kernel
theorem d_L_law_668 : decode b_L_law 668 = .ok (.aload_n 0, 1) := by decide +kernel
theorem d_L_law_669 : decode b_L_law 669 = .ok (.iload 5, 2) := by decide +kernel
theorem d_L_law_671 : decode b_L_law 671 = .ok (.iconst 3, 1) := by decide +kernel
theorem d_L_law_672 : decode b_L_law 672 = .ok (.iadd, 1) := by decide +kernel
theorem d_L_law_673 : decode b_L_law 673 = .ok (.iaload, 1) := by decide +kernel
theorem d_L_law_674 : decode b_L_law 674 = .ok (.aload 4, 2) := by decide +kernel
theorem d_L_law_676 : decode b_L_law 676 = .ok (.invokestatic 117, 3) := by decide +kernel
theorem d_L_law_679 : decode b_L_law 679 = .ok (.istore 6, 2) := by decide +kernel
theorem d_L_law_681 : decode b_L_law 681 = .ok (.aload_n 2, 1) := by decide +kernel
theorem d_L_law_682 : decode b_L_law 682 = .ok (.aload_n 0, 1) := by decide +kernel
theorem d_L_law_683 : decode b_L_law 683 = .ok (.iload 5, 2) := by decide +kernel
theorem d_L_law_685 : decode b_L_law 685 = .ok (.iconst 1, 1) := by decide +kernel
theorem d_L_law_686 : decode b_L_law 686 = .ok (.iadd, 1) := by decide +kernel
theorem d_L_law_687 : decode b_L_law 687 = .ok (.iaload, 1) := by decide +kernel
theorem d_L_law_688 : decode b_L_law 688 = .ok (.aload_n 0, 1) := by decide +kernel
theorem d_L_law_689 : decode b_L_law 689 = .ok (.iload 5, 2) := by decide +kernel
theorem d_L_law_691 : decode b_L_law 691 = .ok (.iconst 2, 1) := by decide +kernel
theorem d_L_law_692 : decode b_L_law 692 = .ok (.iadd, 1) := by decide +kernel
theorem d_L_law_693 : decode b_L_law 693 = .ok (.iaload, 1) := by decide +kernel
theorem d_L_law_694 : decode b_L_law 694 = .ok (.aload_n 0, 1) := by decide +kernel
theorem d_L_law_695 : decode b_L_law 695 = .ok (.iload 5, 2) := by decide +kernel
theorem d_L_law_697 : decode b_L_law 697 = .ok (.iconst 3, 1) := by decide +kernel
theorem d_L_law_698 : decode b_L_law 698 = .ok (.iadd, 1) := by decide +kernel
theorem d_L_law_699 : decode b_L_law 699 = .ok (.iaload, 1) := by decide +kernel
theorem d_L_law_700 : decode b_L_law 700 = .ok (.invokevirtual 120, 3) := by decide +kernel
theorem d_L_law_703 : decode b_L_law 703 = .ok (.dstore 7, 2) := by decide +kernel
theorem d_L_law_705 : decode b_L_law 705 = .ok (.aload_n 2, 1) := by decide +kernel
theorem d_L_law_706 : decode b_L_law 706 = .ok (.invokevirtual 73, 3) := by decide +kernel
theorem d_L_law_709 : decode b_L_law 709 = .ok (.iload 6, 2) := by decide +kernel
theorem d_L_law_711 : decode b_L_law 711 = .ok (.if_icmp .eq 5, 3) := by decide +kernel
theorem d_L_law_714 : decode b_L_law 714 = .ok (.iconst 0, 1) := by decide +kernel
theorem d_L_law_715 : decode b_L_law 715 = .ok (.ireturn, 1) := by decide +kernel
theorem d_L_law_716 : decode b_L_law 716 = .ok (.iload 6, 2) := by decide +kernel
theorem d_L_law_718 : decode b_L_law 718 = .ok (.ifCond .ne 35, 3) := by decide +kernel
theorem d_L_law_721 : decode b_L_law 721 = .ok (.aload 4, 2) := by decide +kernel
theorem d_L_law_723 : decode b_L_law 723 = .ok (.iconst 0, 1) := by decide +kernel
theorem d_L_law_724 : decode b_L_law 724 = .ok (.daload, 1) := by decide +kernel
theorem d_L_law_725 : decode b_L_law 725 = .ok (.dload 7, 2) := by decide +kernel
theorem d_L_law_727 : decode b_L_law 727 = .ok (.dcmp .l, 1) := by decide +kernel
theorem d_L_law_728 : decode b_L_law 728 = .ok (.ifCond .eq 25, 3) := by decide +kernel
theorem d_L_law_731 : decode b_L_law 731 = .ok (.aload 4, 2) := by decide +kernel
theorem d_L_law_733 : decode b_L_law 733 = .ok (.iconst 0, 1) := by decide +kernel
theorem d_L_law_734 : decode b_L_law 734 = .ok (.daload, 1) := by decide +kernel
theorem d_L_law_735 : decode b_L_law 735 = .ok (.aload 4, 2) := by decide +kernel
theorem d_L_law_737 : decode b_L_law 737 = .ok (.iconst 0, 1) := by decide +kernel
theorem d_L_law_738 : decode b_L_law 738 = .ok (.daload, 1) := by decide +kernel
theorem d_L_law_739 : decode b_L_law 739 = .ok (.dcmp .l, 1) := by decide +kernel
theorem d_L_law_740 : decode b_L_law 740 = .ok (.ifCond .eq 11, 3) := by decide +kernel
theorem d_L_law_743 : decode b_L_law 743 = .ok (.dload 7, 2) := by decide +kernel
theorem d_L_law_745 : decode b_L_law 745 = .ok (.dload 7, 2) := by decide +kernel
theorem d_L_law_747 : decode b_L_law 747 = .ok (.dcmp .l, 1) := by decide +kernel
theorem d_L_law_748 : decode b_L_law 748 = .ok (.ifCond .ne 5, 3) := by decide +kernel
theorem d_L_law_751 : decode b_L_law 751 = .ok (.iconst 0, 1) := by decide +kernel
theorem d_L_law_752 : decode b_L_law 752 = .ok (.ireturn, 1) := by decide +kernel
theorem d_L_law_753 : decode b_L_law 753 = .ok (.goto 95, 3) := by decide +kernel
theorem d_L_law_756 : decode b_L_law 756 = .ok (.aload_n 1, 1) := by decide +kernel
theorem d_L_law_757 : decode b_L_law 757 = .ok (.aload_n 0, 1) := by decide +kernel
theorem d_L_law_758 : decode b_L_law 758 = .ok (.iload 5, 2) := by decide +kernel
theorem d_L_law_760 : decode b_L_law 760 = .ok (.iconst 1, 1) := by decide +kernel
theorem d_L_law_761 : decode b_L_law 761 = .ok (.iadd, 1) := by decide +kernel
theorem d_L_law_762 : decode b_L_law 762 = .ok (.iaload, 1) := by decide +kernel
theorem d_L_law_763 : decode b_L_law 763 = .ok (.aload_n 0, 1) := by decide +kernel
theorem d_L_law_764 : decode b_L_law 764 = .ok (.iload 5, 2) := by decide +kernel
theorem d_L_law_766 : decode b_L_law 766 = .ok (.iconst 2, 1) := by decide +kernel
theorem d_L_law_767 : decode b_L_law 767 = .ok (.iadd, 1) := by decide +kernel
theorem d_L_law_768 : decode b_L_law 768 = .ok (.iaload, 1) := by decide +kernel
theorem d_L_law_769 : decode b_L_law 769 = .ok (.aload_n 0, 1) := by decide +kernel
theorem d_L_law_770 : decode b_L_law 770 = .ok (.iload 5, 2) := by decide +kernel
theorem d_L_law_772 : decode b_L_law 772 = .ok (.iconst 3, 1) := by decide +kernel
theorem d_L_law_773 : decode b_L_law 773 = .ok (.iadd, 1) := by decide +kernel
theorem d_L_law_774 : decode b_L_law 774 = .ok (.iaload, 1) := by decide +kernel
theorem d_L_law_775 : decode b_L_law 775 = .ok (.aload_n 0, 1) := by decide +kernel
theorem d_L_law_776 : decode b_L_law 776 = .ok (.iload 5, 2) := by decide +kernel
theorem d_L_law_778 : decode b_L_law 778 = .ok (.iconst 4, 1) := by decide +kernel
theorem d_L_law_779 : decode b_L_law 779 = .ok (.iadd, 1) := by decide +kernel
theorem d_L_law_780 : decode b_L_law 780 = .ok (.iaload, 1) := by decide +kernel
theorem d_L_law_781 : decode b_L_law 781 = .ok (.aload_n 3, 1) := by decide +kernel
theorem d_L_law_782 : decode b_L_law 782 = .ok (.invokestatic 121, 3) := by decide +kernel
theorem d_L_law_785 : decode b_L_law 785 = .ok (.istore 6, 2) := by decide +kernel
theorem d_L_law_787 : decode b_L_law 787 = .ok (.aload_n 2, 1) := by decide +kernel
theorem d_L_law_788 : decode b_L_law 788 = .ok (.aload_n 0, 1) := by decide +kernel
theorem d_L_law_789 : decode b_L_law 789 = .ok (.iload 5, 2) := by decide +kernel
theorem d_L_law_791 : decode b_L_law 791 = .ok (.iconst 1, 1) := by decide +kernel
theorem d_L_law_792 : decode b_L_law 792 = .ok (.iadd, 1) := by decide +kernel
theorem d_L_law_793 : decode b_L_law 793 = .ok (.iaload, 1) := by decide +kernel
theorem d_L_law_794 : decode b_L_law 794 = .ok (.aload_n 0, 1) := by decide +kernel
theorem d_L_law_795 : decode b_L_law 795 = .ok (.iload 5, 2) := by decide +kernel
theorem d_L_law_797 : decode b_L_law 797 = .ok (.iconst 2, 1) := by decide +kernel
theorem d_L_law_798 : decode b_L_law 798 = .ok (.iadd, 1) := by decide +kernel
theorem d_L_law_799 : decode b_L_law 799 = .ok (.iaload, 1) := by decide +kernel
theorem d_L_law_800 : decode b_L_law 800 = .ok (.aload_n 0, 1) := by decide +kernel
theorem d_L_law_801 : decode b_L_law 801 = .ok (.iload 5, 2) := by decide +kernel
theorem d_L_law_803 : decode b_L_law 803 = .ok (.iconst 3, 1) := by decide +kernel
theorem d_L_law_804 : decode b_L_law 804 = .ok (.iadd, 1) := by decide +kernel
theorem d_L_law_805 : decode b_L_law 805 = .ok (.iaload, 1) := by decide +kernel
theorem d_L_law_806 : decode b_L_law 806 = .ok (.aload_n 0, 1) := by decide +kernel
theorem d_L_law_807 : decode b_L_law 807 = .ok (.iload 5, 2) := by decide +kernel
theorem d_L_law_809 : decode b_L_law 809 = .ok (.iconst 4, 1) := by decide +kernel
theorem d_L_law_810 : decode b_L_law 810 = .ok (.iadd, 1) := by decide +kernel
theorem d_L_law_811 : decode b_L_law 811 = .ok (.iaload, 1) := by decide +kernel
theorem d_L_law_812 : decode b_L_law 812 = .ok (.invokevirtual 123, 3) := by decide +kernel
theorem d_L_law_815 : decode b_L_law 815 = .ok (.istore 7, 2) := by decide +kernel
theorem d_L_law_817 : decode b_L_law 817 = .ok (.aload_n 2, 1) := by decide +kernel
theorem d_L_law_818 : decode b_L_law 818 = .ok (.invokevirtual 73, 3) := by decide +kernel
theorem d_L_law_821 : decode b_L_law 821 = .ok (.iload 6, 2) := by decide +kernel
theorem d_L_law_823 : decode b_L_law 823 = .ok (.if_icmp .eq 5, 3) := by decide +kernel
theorem d_L_law_826 : decode b_L_law 826 = .ok (.iconst 0, 1) := by decide +kernel
theorem d_L_law_827 : decode b_L_law 827 = .ok (.ireturn, 1) := by decide +kernel
theorem d_L_law_828 : decode b_L_law 828 = .ok (.iload 6, 2) := by decide +kernel
theorem d_L_law_830 : decode b_L_law 830 = .ok (.ifCond .ne 15, 3) := by decide +kernel
theorem d_L_law_833 : decode b_L_law 833 = .ok (.aload_n 3, 1) := by decide +kernel
theorem d_L_law_834 : decode b_L_law 834 = .ok (.iconst 0, 1) := by decide +kernel
theorem d_L_law_835 : decode b_L_law 835 = .ok (.laload, 1) := by decide +kernel
theorem d_L_law_836 : decode b_L_law 836 = .ok (.iload 7, 2) := by decide +kernel
theorem d_L_law_838 : decode b_L_law 838 = .ok (.i2l, 1) := by decide +kernel
theorem d_L_law_839 : decode b_L_law 839 = .ok (.lcmp, 1) := by decide +kernel
theorem d_L_law_840 : decode b_L_law 840 = .ok (.ifCond .eq 5, 3) := by decide +kernel
theorem d_L_law_843 : decode b_L_law 843 = .ok (.iconst 0, 1) := by decide +kernel
theorem d_L_law_844 : decode b_L_law 844 = .ok (.ireturn, 1) := by decide +kernel
theorem d_L_law_845 : decode b_L_law 845 = .ok (.goto 3, 3) := by decide +kernel
theorem d_L_law_848 : decode b_L_law 848 = .ok (.iinc 5 5, 3) := by decide +kernel
theorem d_L_law_851 : decode b_L_law 851 = .ok (.goto (-823), 3) := by decide +kernel
theorem d_L_law_854 : decode b_L_law 854 = .ok (.iconst 1, 1) := by decide +kernel
theorem d_L_law_855 : decode b_L_law 855 = .ok (.ireturn, 1) := by decide +kernel
theorem p_L_law_b848 (d : Nat) (b28 : Option Nat → Option Nat → Option Nat → Option Nat → Option Nat → Int32 → gk_H → Option (Int32 × gk_H)) (q28 : ∀ (v0 : Option Nat) (v1 : Option Nat) (v2 : Option Nat) (v3 : Option Nat) (v4 : Option Nat) (v5 : Int32) (h : gk_H), gk_P gw_I (d + 13) y_L_law b_L_law 9 (some .boolean) [] (b28 v0 v1 v2 v3 v4 v5 h) 28 [(0, va_rf v0), (1, va_rf v1), (2, va_rf v2), (3, va_rf v3), (4, va_rf v4), (5, .int v5)] [] h) (v0 : Option Nat) (v1 : Option Nat) (v2 : Option Nat) (v3 : Option Nat) (v4 : Option Nat) (v5 : Int32) (h : gk_H) : gk_P gw_I (d + 13) y_L_law b_L_law 9 (some .boolean) [] (f_L_law_b848 b28 v0 v1 v2 v3 v4 v5 h) 848 [(0, va_rf v0), (1, va_rf v1), (2, va_rf v2), (3, va_rf v3), (4, va_rf v4), (5, .int v5)] [] h := by
  unfold f_L_law_b848
  refine gk_iincN (pc := 848) 5 (5 : Int32) (L' := fun x1 => [(5, .int x1), (0, va_rf v0), (1, va_rf v1), (2, va_rf v2), (3, va_rf v3), (4, va_rf v4)]) d_L_law_848 rfl rfl (Nat.le_of_ble_eq_true rfl) (fun _ => by simp [gk_s1, gk_cat_rf, gk_catI, gk_catJ, gk_catD] <;> decide) fun x1 => ?_
  refine gk_goto (pc := 851) 28 d_L_law_851 rfl ?_
  refine gk_weak [1, 2, 3, 4, 5, 0] (L' := [(0, va_rf v0), (1, va_rf v1), (2, va_rf v2), (3, va_rf v3), (4, va_rf v4), (5, .int x1)]) rfl ?_
  exact q28 v0 v1 v2 v3 v4 x1 h
theorem p_L_law_b215 (d : Nat) (b28 : Option Nat → Option Nat → Option Nat → Option Nat → Option Nat → Int32 → gk_H → Option (Int32 × gk_H)) (q28 : ∀ (v0 : Option Nat) (v1 : Option Nat) (v2 : Option Nat) (v3 : Option Nat) (v4 : Option Nat) (v5 : Int32) (h : gk_H), gk_P gw_I (d + 13) y_L_law b_L_law 9 (some .boolean) [] (b28 v0 v1 v2 v3 v4 v5 h) 28 [(0, va_rf v0), (1, va_rf v1), (2, va_rf v2), (3, va_rf v3), (4, va_rf v4), (5, .int v5)] [] h) (v0 : Option Nat) (v1 : Option Nat) (v2 : Option Nat) (v3 : Option Nat) (v4 : Option Nat) (v5 : Int32) (h : gk_H) : gk_P gw_I (d + 13) y_L_law b_L_law 9 (some .boolean) [] (f_L_law_b215 b28 v0 v1 v2 v3 v4 v5 h) 215 [(0, va_rf v0), (1, va_rf v1), (2, va_rf v2), (3, va_rf v3), (4, va_rf v4), (5, .int v5)] [] h := by
  unfold f_L_law_b215
  refine gk_goto (pc := 215) 848 d_L_law_215 rfl ?_
  exact p_L_law_b848 d b28 q28 v0 v1 v2 v3 v4 v5 h
theorem p_L_law_b560 (d : Nat) (b28 : Option Nat → Option Nat → Option Nat → Option Nat → Option Nat → Int32 → gk_H → Option (Int32 × gk_H)) (q28 : ∀ (v0 : Option Nat) (v1 : Option Nat) (v2 : Option Nat) (v3 : Option Nat) (v4 : Option Nat) (v5 : Int32) (h : gk_H), gk_P gw_I (d + 13) y_L_law b_L_law 9 (some .boolean) [] (b28 v0 v1 v2 v3 v4 v5 h) 28 [(0, va_rf v0), (1, va_rf v1), (2, va_rf v2), (3, va_rf v3), (4, va_rf v4), (5, .int v5)] [] h) (v0 : Option Nat) (v1 : Option Nat) (v2 : Option Nat) (v3 : Option Nat) (v4 : Option Nat) (v5 : Int32) (h : gk_H) : gk_P gw_I (d + 13) y_L_law b_L_law 9 (some .boolean) [] (f_L_law_b560 b28 v0 v1 v2 v3 v4 v5 h) 560 [(0, va_rf v0), (1, va_rf v1), (2, va_rf v2), (3, va_rf v3), (4, va_rf v4), (5, .int v5)] [] h := by
  unfold f_L_law_b560
  refine gk_goto (pc := 560) 848 d_L_law_560 rfl ?_
  exact p_L_law_b848 d b28 q28 v0 v1 v2 v3 v4 v5 h
theorem p_L_law_b652 (d : Nat) (b28 : Option Nat → Option Nat → Option Nat → Option Nat → Option Nat → Int32 → gk_H → Option (Int32 × gk_H)) (q28 : ∀ (v0 : Option Nat) (v1 : Option Nat) (v2 : Option Nat) (v3 : Option Nat) (v4 : Option Nat) (v5 : Int32) (h : gk_H), gk_P gw_I (d + 13) y_L_law b_L_law 9 (some .boolean) [] (b28 v0 v1 v2 v3 v4 v5 h) 28 [(0, va_rf v0), (1, va_rf v1), (2, va_rf v2), (3, va_rf v3), (4, va_rf v4), (5, .int v5)] [] h) (v0 : Option Nat) (v1 : Option Nat) (v2 : Option Nat) (v3 : Option Nat) (v4 : Option Nat) (v5 : Int32) (h : gk_H) : gk_P gw_I (d + 13) y_L_law b_L_law 9 (some .boolean) [] (f_L_law_b652 b28 v0 v1 v2 v3 v4 v5 h) 652 [(0, va_rf v0), (1, va_rf v1), (2, va_rf v2), (3, va_rf v3), (4, va_rf v4), (5, .int v5)] [] h := by
  unfold f_L_law_b652
  refine gk_goto (pc := 652) 848 d_L_law_652 rfl ?_
  exact p_L_law_b848 d b28 q28 v0 v1 v2 v3 v4 v5 h
theorem p_L_law_b753 (d : Nat) (b28 : Option Nat → Option Nat → Option Nat → Option Nat → Option Nat → Int32 → gk_H → Option (Int32 × gk_H)) (q28 : ∀ (v0 : Option Nat) (v1 : Option Nat) (v2 : Option Nat) (v3 : Option Nat) (v4 : Option Nat) (v5 : Int32) (h : gk_H), gk_P gw_I (d + 13) y_L_law b_L_law 9 (some .boolean) [] (b28 v0 v1 v2 v3 v4 v5 h) 28 [(0, va_rf v0), (1, va_rf v1), (2, va_rf v2), (3, va_rf v3), (4, va_rf v4), (5, .int v5)] [] h) (v0 : Option Nat) (v1 : Option Nat) (v2 : Option Nat) (v3 : Option Nat) (v4 : Option Nat) (v5 : Int32) (h : gk_H) : gk_P gw_I (d + 13) y_L_law b_L_law 9 (some .boolean) [] (f_L_law_b753 b28 v0 v1 v2 v3 v4 v5 h) 753 [(0, va_rf v0), (1, va_rf v1), (2, va_rf v2), (3, va_rf v3), (4, va_rf v4), (5, .int v5)] [] h := by
  unfold f_L_law_b753
  refine gk_goto (pc := 753) 848 d_L_law_753 rfl ?_
  exact p_L_law_b848 d b28 q28 v0 v1 v2 v3 v4 v5 h
theorem p_L_law_b751 (d : Nat)   (h : gk_H) : gk_P gw_I (d + 13) y_L_law b_L_law 9 (some .boolean) [] (f_L_law_b751   h) 751 [] [] h := by
  unfold f_L_law_b751
  refine gk_iconst (pc := 751) (0 : Int32) d_L_law_751 rfl ?_
  exact gk_zret (pc := 752) rfl d_L_law_752 rfl
theorem p_L_law_b845 (d : Nat) (b28 : Option Nat → Option Nat → Option Nat → Option Nat → Option Nat → Int32 → gk_H → Option (Int32 × gk_H)) (q28 : ∀ (v0 : Option Nat) (v1 : Option Nat) (v2 : Option Nat) (v3 : Option Nat) (v4 : Option Nat) (v5 : Int32) (h : gk_H), gk_P gw_I (d + 13) y_L_law b_L_law 9 (some .boolean) [] (b28 v0 v1 v2 v3 v4 v5 h) 28 [(0, va_rf v0), (1, va_rf v1), (2, va_rf v2), (3, va_rf v3), (4, va_rf v4), (5, .int v5)] [] h) (v0 : Option Nat) (v1 : Option Nat) (v2 : Option Nat) (v3 : Option Nat) (v4 : Option Nat) (v5 : Int32) (h : gk_H) : gk_P gw_I (d + 13) y_L_law b_L_law 9 (some .boolean) [] (f_L_law_b845 b28 v0 v1 v2 v3 v4 v5 h) 845 [(0, va_rf v0), (1, va_rf v1), (2, va_rf v2), (3, va_rf v3), (4, va_rf v4), (5, .int v5)] [] h := by
  unfold f_L_law_b845
  refine gk_goto (pc := 845) 848 d_L_law_845 rfl ?_
  exact p_L_law_b848 d b28 q28 v0 v1 v2 v3 v4 v5 h
theorem p_L_law_b28 (d : Nat)  : ∀ (fu : Nat) (v0 : Option Nat) (v1 : Option Nat) (v2 : Option Nat) (v3 : Option Nat) (v4 : Option Nat) (v5 : Int32) (h : gk_H), gk_P gw_I (d + 13) y_L_law b_L_law 9 (some .boolean) [] (f_L_law_b28  fu v0 v1 v2 v3 v4 v5 h) 28 [(0, va_rf v0), (1, va_rf v1), (2, va_rf v2), (3, va_rf v3), (4, va_rf v4), (5, .int v5)] [] h := by
  intro fu
  induction fu with
  | zero => intros; exact gk_none
  | succ fu q28 =>
    intro v0 v1 v2 v3 v4 v5 h
    rw [f_L_law_b28]
    refine gk_iload (pc := 28) 5 d_L_law_28 rfl ?_
    refine gk_aload_n (pc := 30) 0 d_L_law_30 rfl ?_
    refine gk_alen (pc := 31) d_L_law_31 fun x1 => ?_
    refine gk_iconst (pc := 32) (5 : Int32) d_L_law_32 rfl ?_
    refine gk_isub (pc := 33) d_L_law_33 ?_
    refine gk_icmp_gt (pc := 34) 854 d_L_law_34 rfl (fun _ => ?_) (fun _ => ?_)
    · refine gk_iconst (pc := 854) (1 : Int32) d_L_law_854 rfl ?_
      exact gk_zret (pc := 855) rfl d_L_law_855 rfl
    · refine gk_aload_n (pc := 37) 0 d_L_law_37 rfl ?_
      refine gk_iload (pc := 38) 5 d_L_law_38 rfl ?_
      refine gk_iald (pc := 40) d_L_law_40 fun x2 => ?_
      refine gk_bipush (pc := 41) (15 : Int32) d_L_law_41 rfl ?_
      refine gk_iand (pc := 43) d_L_law_43 ?_
      refine gk_topI (pc := 44) fun x3 => ?_
      refine gk_ite (fun z44_0 => ?_) (fun z44_0 => ?_)
      · refine gk_tsw_in (pc := 44) (0 : Int32) 116 d_L_law_44 z44_0 (by decide) (by decide) rfl rfl ?_
        refine gk_aload_n (pc := 116) 1 d_L_law_116 rfl ?_
        refine gk_aload_n (pc := 117) 0 d_L_law_117 rfl ?_
        refine gk_iload (pc := 118) 5 d_L_law_118 rfl ?_
        refine gk_iconst (pc := 120) (1 : Int32) d_L_law_120 rfl ?_
        refine gk_iadd (pc := 121) d_L_law_121 ?_
        refine gk_iald (pc := 122) d_L_law_122 fun x4 => ?_
        refine gk_i2d (pc := 123) d_L_law_123 ?_
        refine gk_ldc2d (pc := 124) tw_2179 d_L_law_124 ?_
        refine gk_dmulN (pc := 127) d_L_law_127 fun x5 => ?_
        refine gk_callSH (pc := 128) (d := (d + 12)) (w' := gv_I) (as := [va_rf v1, .double x5]) (n := 2) d_L_law_128 rfl rfl (Nat.le_of_ble_eq_true rfl) tw_308 tw_309 tw_90 cw_L_number hy_L_number (Nat.le_of_ble_eq_true rfl) (p_L_number (d + 2) v1 x5 h) fun x6 h1 => ?_
        refine gk_istore (pc := 131) (L' := [(6, .int x6), (0, va_rf v0), (1, va_rf v1), (2, va_rf v2), (3, va_rf v3), (4, va_rf v4), (5, .int v5)]) d_L_law_131 (Nat.le_of_ble_eq_true rfl) rfl ?_
        refine gk_aload_n (pc := 133) 3 d_L_law_133 rfl ?_
        refine gk_aload_n (pc := 134) 1 d_L_law_134 rfl ?_
        refine gk_iload (pc := 135) 6 d_L_law_135 rfl ?_
        refine gk_iconst (pc := 137) (1 : Int32) d_L_law_137 rfl ?_
        refine gk_iadd (pc := 138) d_L_law_138 ?_
        refine gk_iald (pc := 139) d_L_law_139 fun x7 => ?_
        refine gk_i2d (pc := 140) d_L_law_140 ?_
        refine gk_ldc2d (pc := 141) tw_2179 d_L_law_141 ?_
        refine gk_dmulN (pc := 144) d_L_law_144 fun x8 => ?_
        refine gk_callV (pc := 145) (d := (d + 12)) (w' := gv_V) (as := [.double x8]) (n := 1) 7 d_L_law_145 rfl rfl rfl rfl (Nat.le_of_ble_eq_true rfl) tw_1725 tw_1726 tw_1727 tw_99 cw_M_number hy_M_number (Nat.le_of_ble_eq_true rfl) (p_M_number (d + 11) v2 x8 h1) fun _ h2 => ?_
        refine gk_aload_n (pc := 148) 3 d_L_law_148 rfl ?_
        refine gk_callV (pc := 149) (d := (d + 12)) (w' := gv_I) (as := []) (n := 0) 7 d_L_law_149 rfl rfl rfl rfl (Nat.le_of_ble_eq_true rfl) tw_1721 tw_1722 tw_1723 tw_99 cw_M_thrown hy_M_thrown (Nat.le_of_ble_eq_true rfl) (p_M_thrown (d + 12) v2 h2) fun x9 h3 => ?_
        refine gk_iload (pc := 152) 0 d_L_law_152 rfl ?_
        refine gk_icmp_eq (pc := 154) 159 d_L_law_154 rfl (fun _ => ?_) (fun _ => ?_)
        · refine gk_goto (pc := 159) 848 d_L_law_159 rfl ?_
          refine gk_weak [1, 2, 3, 4, 5, 6] (L' := [(0, va_rf v0), (1, va_rf v1), (2, va_rf v2), (3, va_rf v3), (4, va_rf v4), (5, .int v5)]) rfl ?_
          exact p_L_law_b848 d (f_L_law_b28 fu) q28 v0 v1 v2 v3 v4 v5 h3
        · refine gk_iconst (pc := 157) (0 : Int32) d_L_law_157 rfl ?_
          exact gk_zret (pc := 158) rfl d_L_law_158 rfl
      ·
        refine gk_ite (fun z44_1 => ?_) (fun z44_1 => ?_)
        · refine gk_tsw_in (pc := 44) (1 : Int32) 162 d_L_law_44 z44_1 (by decide) (by decide) rfl rfl ?_
          refine gk_aload_n (pc := 162) 1 d_L_law_162 rfl ?_
          refine gk_aload_n (pc := 163) 0 d_L_law_163 rfl ?_
          refine gk_iload (pc := 164) 5 d_L_law_164 rfl ?_
          refine gk_iconst (pc := 166) (1 : Int32) d_L_law_166 rfl ?_
          refine gk_iadd (pc := 167) d_L_law_167 ?_
          refine gk_iald (pc := 168) d_L_law_168 fun x10 => ?_
          refine gk_aload_n (pc := 169) 3 d_L_law_169 rfl ?_
          refine gk_callSH (pc := 170) (d := (d + 12)) (w' := gv_I) (as := [va_rf v1, .int x10, va_rf v3]) (n := 3) d_L_law_170 rfl rfl (Nat.le_of_ble_eq_true rfl) tw_397 tw_398 tw_90 cw_L_type hy_L_type (Nat.le_of_ble_eq_true rfl) (p_L_type (d + 3) v1 x10 v3 h) fun x11 h4 => ?_
          refine gk_istore (pc := 173) (L' := [(6, .int x11), (0, va_rf v0), (1, va_rf v1), (2, va_rf v2), (3, va_rf v3), (4, va_rf v4), (5, .int v5)]) d_L_law_173 (Nat.le_of_ble_eq_true rfl) rfl ?_
          refine gk_aload_n (pc := 175) 3 d_L_law_175 rfl ?_
          refine gk_aload_n (pc := 176) 1 d_L_law_176 rfl ?_
          refine gk_iload (pc := 177) 6 d_L_law_177 rfl ?_
          refine gk_iconst (pc := 179) (1 : Int32) d_L_law_179 rfl ?_
          refine gk_iadd (pc := 180) d_L_law_180 ?_
          refine gk_iald (pc := 181) d_L_law_181 fun x12 => ?_
          refine gk_callV (pc := 182) (d := (d + 12)) (w' := gv_I) (as := [.int x12]) (n := 1) 7 d_L_law_182 rfl rfl rfl rfl (Nat.le_of_ble_eq_true rfl) tw_1737 tw_1738 tw_1739 tw_99 cw_M_type hy_M_type (Nat.le_of_ble_eq_true rfl) (p_M_type (d + 12) v2 x12 h4) fun x13 h5 => ?_
          refine gk_istore (pc := 185) (L' := [(7, .int x13), (6, .int x11), (0, va_rf v0), (1, va_rf v1), (2, va_rf v2), (3, va_rf v3), (4, va_rf v4), (5, .int v5)]) d_L_law_185 (Nat.le_of_ble_eq_true rfl) rfl ?_
          refine gk_aload_n (pc := 187) 4 d_L_law_187 rfl ?_
          refine gk_callV (pc := 188) (d := (d + 12)) (w' := gv_I) (as := []) (n := 0) 7 d_L_law_188 rfl rfl rfl rfl (Nat.le_of_ble_eq_true rfl) tw_1721 tw_1722 tw_1723 tw_99 cw_M_thrown hy_M_thrown (Nat.le_of_ble_eq_true rfl) (p_M_thrown (d + 12) v2 h5) fun x14 h6 => ?_
          refine gk_iload (pc := 191) 1 d_L_law_191 rfl ?_
          refine gk_icmp_eq (pc := 193) 198 d_L_law_193 rfl (fun _ => ?_) (fun _ => ?_)
          · refine gk_iload (pc := 198) 1 d_L_law_198 rfl ?_
            refine gk_if_ne (pc := 200) 215 d_L_law_200 rfl (fun _ => ?_) (fun _ => ?_)
            · refine gk_aload_n (pc := 203) 5 d_L_law_203 rfl ?_
              refine gk_iconst (pc := 204) (0 : Int32) d_L_law_204 rfl ?_
              refine gk_lald (pc := 205) d_L_law_205 fun x15 => ?_
              refine gk_iload (pc := 206) 0 d_L_law_206 rfl ?_
              refine gk_i2l (pc := 208) d_L_law_208 ?_
              refine gk_lcmp (pc := 209) d_L_law_209 ?_
              refine gk_if_eq (pc := 210) 215 d_L_law_210 rfl (fun _ => ?_) (fun _ => ?_)
              · refine gk_weak [2, 3, 4, 5, 6, 7] (L' := [(0, va_rf v0), (1, va_rf v1), (2, va_rf v2), (3, va_rf v3), (4, va_rf v4), (5, .int v5)]) rfl ?_
                exact p_L_law_b215 d (f_L_law_b28 fu) q28 v0 v1 v2 v3 v4 v5 h6
              · refine gk_iconst (pc := 213) (0 : Int32) d_L_law_213 rfl ?_
                exact gk_zret (pc := 214) rfl d_L_law_214 rfl
            · refine gk_weak [2, 3, 4, 5, 6, 7] (L' := [(0, va_rf v0), (1, va_rf v1), (2, va_rf v2), (3, va_rf v3), (4, va_rf v4), (5, .int v5)]) rfl ?_
              exact p_L_law_b215 d (f_L_law_b28 fu) q28 v0 v1 v2 v3 v4 v5 h6
          · refine gk_iconst (pc := 196) (0 : Int32) d_L_law_196 rfl ?_
            exact gk_zret (pc := 197) rfl d_L_law_197 rfl
        ·
          refine gk_ite (fun z44_2 => ?_) (fun z44_2 => ?_)
          · refine gk_tsw_in (pc := 44) (2 : Int32) 218 d_L_law_44 z44_2 (by decide) (by decide) rfl rfl ?_
            refine gk_aload_n (pc := 218) 1 d_L_law_218 rfl ?_
            refine gk_callSH (pc := 219) (d := (d + 12)) (w' := gv_I) (as := [va_rf v1]) (n := 1) d_L_law_219 rfl rfl (Nat.le_of_ble_eq_true rfl) tw_524 tw_525 tw_90 cw_L_text hy_L_text (Nat.le_of_ble_eq_true rfl) (p_L_text (d + 2) v1 h) fun x16 h7 => ?_
            refine gk_istore (pc := 222) (L' := [(6, .int x16), (0, va_rf v0), (1, va_rf v1), (2, va_rf v2), (3, va_rf v3), (4, va_rf v4), (5, .int v5)]) d_L_law_222 (Nat.le_of_ble_eq_true rfl) rfl ?_
            refine gk_aload_n (pc := 224) 3 d_L_law_224 rfl ?_
            refine gk_callV (pc := 225) (d := (d + 12)) (w' := gv_V) (as := []) (n := 0) 7 d_L_law_225 rfl rfl rfl rfl (Nat.le_of_ble_eq_true rfl) tw_1741 tw_1742 tw_1743 tw_99 cw_M_text hy_M_text (Nat.le_of_ble_eq_true rfl) (p_M_text (d + 11) v2 h7) fun _ h8 => ?_
            refine gk_aload_n (pc := 228) 3 d_L_law_228 rfl ?_
            refine gk_callV (pc := 229) (d := (d + 12)) (w' := gv_I) (as := []) (n := 0) 7 d_L_law_229 rfl rfl rfl rfl (Nat.le_of_ble_eq_true rfl) tw_1721 tw_1722 tw_1723 tw_99 cw_M_thrown hy_M_thrown (Nat.le_of_ble_eq_true rfl) (p_M_thrown (d + 12) v2 h8) fun x17 h9 => ?_
            refine gk_iload (pc := 232) 0 d_L_law_232 rfl ?_
            refine gk_icmp_eq (pc := 234) 239 d_L_law_234 rfl (fun _ => ?_) (fun _ => ?_)
            · refine gk_goto (pc := 239) 848 d_L_law_239 rfl ?_
              refine gk_weak [1, 2, 3, 4, 5, 6] (L' := [(0, va_rf v0), (1, va_rf v1), (2, va_rf v2), (3, va_rf v3), (4, va_rf v4), (5, .int v5)]) rfl ?_
              exact p_L_law_b848 d (f_L_law_b28 fu) q28 v0 v1 v2 v3 v4 v5 h9
            · refine gk_iconst (pc := 237) (0 : Int32) d_L_law_237 rfl ?_
              exact gk_zret (pc := 238) rfl d_L_law_238 rfl
          ·
            refine gk_ite (fun z44_3 => ?_) (fun z44_3 => ?_)
            · refine gk_tsw_in (pc := 44) (3 : Int32) 242 d_L_law_44 z44_3 (by decide) (by decide) rfl rfl ?_
              refine gk_aload_n (pc := 242) 1 d_L_law_242 rfl ?_
              refine gk_aload_n (pc := 243) 0 d_L_law_243 rfl ?_
              refine gk_iload (pc := 244) 5 d_L_law_244 rfl ?_
              refine gk_iconst (pc := 246) (1 : Int32) d_L_law_246 rfl ?_
              refine gk_iadd (pc := 247) d_L_law_247 ?_
              refine gk_iald (pc := 248) d_L_law_248 fun x18 => ?_
              refine gk_aload_n (pc := 249) 0 d_L_law_249 rfl ?_
              refine gk_iload (pc := 250) 5 d_L_law_250 rfl ?_
              refine gk_iconst (pc := 252) (2 : Int32) d_L_law_252 rfl ?_
              refine gk_iadd (pc := 253) d_L_law_253 ?_
              refine gk_iald (pc := 254) d_L_law_254 fun x19 => ?_
              refine gk_callSH (pc := 255) (d := (d + 12)) (w' := gv_I) (as := [va_rf v1, .int x18, .int x19]) (n := 3) d_L_law_255 rfl rfl (Nat.le_of_ble_eq_true rfl) tw_730 tw_731 tw_90 cw_L_plain hy_L_plain (Nat.le_of_ble_eq_true rfl) (p_L_plain (d + 2) v1 x18 x19 h) fun x20 h10 => ?_
              refine gk_istore (pc := 258) (L' := [(6, .int x20), (0, va_rf v0), (1, va_rf v1), (2, va_rf v2), (3, va_rf v3), (4, va_rf v4), (5, .int v5)]) d_L_law_258 (Nat.le_of_ble_eq_true rfl) rfl ?_
              refine gk_aload_n (pc := 260) 3 d_L_law_260 rfl ?_
              refine gk_aload_n (pc := 261) 1 d_L_law_261 rfl ?_
              refine gk_iload (pc := 262) 6 d_L_law_262 rfl ?_
              refine gk_iconst (pc := 264) (1 : Int32) d_L_law_264 rfl ?_
              refine gk_iadd (pc := 265) d_L_law_265 ?_
              refine gk_iald (pc := 266) d_L_law_266 fun x21 => ?_
              refine gk_aload_n (pc := 267) 1 d_L_law_267 rfl ?_
              refine gk_iload (pc := 268) 6 d_L_law_268 rfl ?_
              refine gk_iconst (pc := 270) (2 : Int32) d_L_law_270 rfl ?_
              refine gk_iadd (pc := 271) d_L_law_271 ?_
              refine gk_iald (pc := 272) d_L_law_272 fun x22 => ?_
              refine gk_callV (pc := 273) (d := (d + 12)) (w' := gv_V) (as := [.int x21, .int x22]) (n := 2) 7 d_L_law_273 rfl rfl rfl rfl (Nat.le_of_ble_eq_true rfl) tw_1745 tw_1746 tw_1747 tw_99 cw_M_plain hy_M_plain (Nat.le_of_ble_eq_true rfl) (p_M_plain (d + 11) v2 x21 x22 h10) fun _ h11 => ?_
              refine gk_aload_n (pc := 276) 3 d_L_law_276 rfl ?_
              refine gk_callV (pc := 277) (d := (d + 12)) (w' := gv_I) (as := []) (n := 0) 7 d_L_law_277 rfl rfl rfl rfl (Nat.le_of_ble_eq_true rfl) tw_1721 tw_1722 tw_1723 tw_99 cw_M_thrown hy_M_thrown (Nat.le_of_ble_eq_true rfl) (p_M_thrown (d + 12) v2 h11) fun x23 h12 => ?_
              refine gk_iload (pc := 280) 0 d_L_law_280 rfl ?_
              refine gk_icmp_eq (pc := 282) 287 d_L_law_282 rfl (fun _ => ?_) (fun _ => ?_)
              · refine gk_goto (pc := 287) 848 d_L_law_287 rfl ?_
                refine gk_weak [1, 2, 3, 4, 5, 6] (L' := [(0, va_rf v0), (1, va_rf v1), (2, va_rf v2), (3, va_rf v3), (4, va_rf v4), (5, .int v5)]) rfl ?_
                exact p_L_law_b848 d (f_L_law_b28 fu) q28 v0 v1 v2 v3 v4 v5 h12
              · refine gk_iconst (pc := 285) (0 : Int32) d_L_law_285 rfl ?_
                exact gk_zret (pc := 286) rfl d_L_law_286 rfl
            ·
              refine gk_ite (fun z44_4 => ?_) (fun z44_4 => ?_)
              · refine gk_tsw_in (pc := 44) (4 : Int32) 290 d_L_law_44 z44_4 (by decide) (by decide) rfl rfl ?_
                refine gk_aload_n (pc := 290) 1 d_L_law_290 rfl ?_
                refine gk_aload_n (pc := 291) 0 d_L_law_291 rfl ?_
                refine gk_iload (pc := 292) 5 d_L_law_292 rfl ?_
                refine gk_iconst (pc := 294) (1 : Int32) d_L_law_294 rfl ?_
                refine gk_iadd (pc := 295) d_L_law_295 ?_
                refine gk_iald (pc := 296) d_L_law_296 fun x24 => ?_
                refine gk_aload_n (pc := 297) 0 d_L_law_297 rfl ?_
                refine gk_iload (pc := 298) 5 d_L_law_298 rfl ?_
                refine gk_iconst (pc := 300) (2 : Int32) d_L_law_300 rfl ?_
                refine gk_iadd (pc := 301) d_L_law_301 ?_
                refine gk_iald (pc := 302) d_L_law_302 fun x25 => ?_
                refine gk_callSH (pc := 303) (d := (d + 12)) (w' := gv_I) (as := [va_rf v1, .int x24, .int x25]) (n := 3) d_L_law_303 rfl rfl (Nat.le_of_ble_eq_true rfl) tw_743 tw_744 tw_90 cw_L_array hy_L_array (Nat.le_of_ble_eq_true rfl) (p_L_array (d + 1) v1 x24 x25 h) fun x26 h13 => ?_
                refine gk_istore (pc := 306) (L' := [(6, .int x26), (0, va_rf v0), (1, va_rf v1), (2, va_rf v2), (3, va_rf v3), (4, va_rf v4), (5, .int v5)]) d_L_law_306 (Nat.le_of_ble_eq_true rfl) rfl ?_
                refine gk_aload_n (pc := 308) 3 d_L_law_308 rfl ?_
                refine gk_aload_n (pc := 309) 1 d_L_law_309 rfl ?_
                refine gk_iload (pc := 310) 6 d_L_law_310 rfl ?_
                refine gk_iconst (pc := 312) (1 : Int32) d_L_law_312 rfl ?_
                refine gk_iadd (pc := 313) d_L_law_313 ?_
                refine gk_iald (pc := 314) d_L_law_314 fun x27 => ?_
                refine gk_aload_n (pc := 315) 1 d_L_law_315 rfl ?_
                refine gk_iload (pc := 316) 6 d_L_law_316 rfl ?_
                refine gk_iconst (pc := 318) (2 : Int32) d_L_law_318 rfl ?_
                refine gk_iadd (pc := 319) d_L_law_319 ?_
                refine gk_iald (pc := 320) d_L_law_320 fun x28 => ?_
                refine gk_callV (pc := 321) (d := (d + 12)) (w' := gv_V) (as := [.int x27, .int x28]) (n := 2) 7 d_L_law_321 rfl rfl rfl rfl (Nat.le_of_ble_eq_true rfl) tw_1749 tw_1750 tw_1751 tw_99 cw_M_array hy_M_array (Nat.le_of_ble_eq_true rfl) (p_M_array (d + 11) v2 x27 x28 h13) fun _ h14 => ?_
                refine gk_aload_n (pc := 324) 3 d_L_law_324 rfl ?_
                refine gk_callV (pc := 325) (d := (d + 12)) (w' := gv_I) (as := []) (n := 0) 7 d_L_law_325 rfl rfl rfl rfl (Nat.le_of_ble_eq_true rfl) tw_1721 tw_1722 tw_1723 tw_99 cw_M_thrown hy_M_thrown (Nat.le_of_ble_eq_true rfl) (p_M_thrown (d + 12) v2 h14) fun x29 h15 => ?_
                refine gk_iload (pc := 328) 0 d_L_law_328 rfl ?_
                refine gk_icmp_eq (pc := 330) 335 d_L_law_330 rfl (fun _ => ?_) (fun _ => ?_)
                · refine gk_goto (pc := 335) 848 d_L_law_335 rfl ?_
                  refine gk_weak [1, 2, 3, 4, 5, 6] (L' := [(0, va_rf v0), (1, va_rf v1), (2, va_rf v2), (3, va_rf v3), (4, va_rf v4), (5, .int v5)]) rfl ?_
                  exact p_L_law_b848 d (f_L_law_b28 fu) q28 v0 v1 v2 v3 v4 v5 h15
                · refine gk_iconst (pc := 333) (0 : Int32) d_L_law_333 rfl ?_
                  exact gk_zret (pc := 334) rfl d_L_law_334 rfl
              ·
                refine gk_ite (fun z44_5 => ?_) (fun z44_5 => ?_)
                · refine gk_tsw_in (pc := 44) (5 : Int32) 338 d_L_law_44 z44_5 (by decide) (by decide) rfl rfl ?_
                  refine gk_aload_n (pc := 338) 1 d_L_law_338 rfl ?_
                  refine gk_aload_n (pc := 339) 0 d_L_law_339 rfl ?_
                  refine gk_iload (pc := 340) 5 d_L_law_340 rfl ?_
                  refine gk_iconst (pc := 342) (1 : Int32) d_L_law_342 rfl ?_
                  refine gk_iadd (pc := 343) d_L_law_343 ?_
                  refine gk_iald (pc := 344) d_L_law_344 fun x30 => ?_
                  refine gk_callSH (pc := 345) (d := (d + 12)) (w' := gv_I) (as := [va_rf v1, .int x30]) (n := 2) d_L_law_345 rfl rfl (Nat.le_of_ble_eq_true rfl) tw_760 tw_761 tw_90 cw_L_operate hy_L_operate (Nat.le_of_ble_eq_true rfl) (p_L_operate (d + 1) v1 x30 h) fun x31 h16 => ?_
                  refine gk_istore (pc := 348) (L' := [(6, .int x31), (0, va_rf v0), (1, va_rf v1), (2, va_rf v2), (3, va_rf v3), (4, va_rf v4), (5, .int v5)]) d_L_law_348 (Nat.le_of_ble_eq_true rfl) rfl ?_
                  refine gk_aload_n (pc := 350) 3 d_L_law_350 rfl ?_
                  refine gk_aload_n (pc := 351) 1 d_L_law_351 rfl ?_
                  refine gk_iload (pc := 352) 6 d_L_law_352 rfl ?_
                  refine gk_iconst (pc := 354) (1 : Int32) d_L_law_354 rfl ?_
                  refine gk_iadd (pc := 355) d_L_law_355 ?_
                  refine gk_iald (pc := 356) d_L_law_356 fun x32 => ?_
                  refine gk_callV (pc := 357) (d := (d + 12)) (w' := gv_V) (as := [.int x32]) (n := 1) 7 d_L_law_357 rfl rfl rfl rfl (Nat.le_of_ble_eq_true rfl) tw_1793 tw_1794 tw_1795 tw_99 cw_M_operate hy_M_operate (Nat.le_of_ble_eq_true rfl) (p_M_operate (d + 8) v2 x32 h16) fun _ h17 => ?_
                  refine gk_aload_n (pc := 360) 3 d_L_law_360 rfl ?_
                  refine gk_callV (pc := 361) (d := (d + 12)) (w' := gv_I) (as := []) (n := 0) 7 d_L_law_361 rfl rfl rfl rfl (Nat.le_of_ble_eq_true rfl) tw_1721 tw_1722 tw_1723 tw_99 cw_M_thrown hy_M_thrown (Nat.le_of_ble_eq_true rfl) (p_M_thrown (d + 12) v2 h17) fun x33 h18 => ?_
                  refine gk_iload (pc := 364) 0 d_L_law_364 rfl ?_
                  refine gk_icmp_eq (pc := 366) 371 d_L_law_366 rfl (fun _ => ?_) (fun _ => ?_)
                  · refine gk_goto (pc := 371) 848 d_L_law_371 rfl ?_
                    refine gk_weak [1, 2, 3, 4, 5, 6] (L' := [(0, va_rf v0), (1, va_rf v1), (2, va_rf v2), (3, va_rf v3), (4, va_rf v4), (5, .int v5)]) rfl ?_
                    exact p_L_law_b848 d (f_L_law_b28 fu) q28 v0 v1 v2 v3 v4 v5 h18
                  · refine gk_iconst (pc := 369) (0 : Int32) d_L_law_369 rfl ?_
                    exact gk_zret (pc := 370) rfl d_L_law_370 rfl
                ·
                  refine gk_ite (fun z44_6 => ?_) (fun z44_6 => ?_)
                  · refine gk_tsw_in (pc := 44) (6 : Int32) 374 d_L_law_44 z44_6 (by decide) (by decide) rfl rfl ?_
                    refine gk_aload_n (pc := 374) 1 d_L_law_374 rfl ?_
                    refine gk_aload_n (pc := 375) 0 d_L_law_375 rfl ?_
                    refine gk_iload (pc := 376) 5 d_L_law_376 rfl ?_
                    refine gk_iconst (pc := 378) (1 : Int32) d_L_law_378 rfl ?_
                    refine gk_iadd (pc := 379) d_L_law_379 ?_
                    refine gk_iald (pc := 380) d_L_law_380 fun x34 => ?_
                    refine gk_aload_n (pc := 381) 0 d_L_law_381 rfl ?_
                    refine gk_iload (pc := 382) 5 d_L_law_382 rfl ?_
                    refine gk_iconst (pc := 384) (2 : Int32) d_L_law_384 rfl ?_
                    refine gk_iadd (pc := 385) d_L_law_385 ?_
                    refine gk_iald (pc := 386) d_L_law_386 fun x35 => ?_
                    refine gk_callSH (pc := 387) (d := (d + 12)) (w' := gv_I) (as := [va_rf v1, .int x34, .int x35]) (n := 3) d_L_law_387 rfl rfl (Nat.le_of_ble_eq_true rfl) tw_1010 tw_1011 tw_90 cw_L_call hy_L_call (Nat.le_of_ble_eq_true rfl) (p_L_call d v1 x34 x35 h) fun x36 h19 => ?_
                    refine gk_istore (pc := 390) (L' := [(6, .int x36), (0, va_rf v0), (1, va_rf v1), (2, va_rf v2), (3, va_rf v3), (4, va_rf v4), (5, .int v5)]) d_L_law_390 (Nat.le_of_ble_eq_true rfl) rfl ?_
                    refine gk_aload_n (pc := 392) 3 d_L_law_392 rfl ?_
                    refine gk_aload_n (pc := 393) 1 d_L_law_393 rfl ?_
                    refine gk_iload (pc := 394) 6 d_L_law_394 rfl ?_
                    refine gk_iconst (pc := 396) (1 : Int32) d_L_law_396 rfl ?_
                    refine gk_iadd (pc := 397) d_L_law_397 ?_
                    refine gk_iald (pc := 398) d_L_law_398 fun x37 => ?_
                    refine gk_aload_n (pc := 399) 1 d_L_law_399 rfl ?_
                    refine gk_iload (pc := 400) 6 d_L_law_400 rfl ?_
                    refine gk_iconst (pc := 402) (2 : Int32) d_L_law_402 rfl ?_
                    refine gk_iadd (pc := 403) d_L_law_403 ?_
                    refine gk_iald (pc := 404) d_L_law_404 fun x38 => ?_
                    refine gk_callV (pc := 405) (d := (d + 12)) (w' := gv_V) (as := [.int x37, .int x38]) (n := 2) 7 d_L_law_405 rfl rfl rfl rfl (Nat.le_of_ble_eq_true rfl) tw_1924 tw_1925 tw_1926 tw_99 cw_M_call hy_M_call (Nat.le_of_ble_eq_true rfl) (p_M_call (d + 5) v2 x37 x38 h19) fun _ h20 => ?_
                    refine gk_aload_n (pc := 408) 3 d_L_law_408 rfl ?_
                    refine gk_callV (pc := 409) (d := (d + 12)) (w' := gv_I) (as := []) (n := 0) 7 d_L_law_409 rfl rfl rfl rfl (Nat.le_of_ble_eq_true rfl) tw_1721 tw_1722 tw_1723 tw_99 cw_M_thrown hy_M_thrown (Nat.le_of_ble_eq_true rfl) (p_M_thrown (d + 12) v2 h20) fun x39 h21 => ?_
                    refine gk_iload (pc := 412) 0 d_L_law_412 rfl ?_
                    refine gk_icmp_eq (pc := 414) 419 d_L_law_414 rfl (fun _ => ?_) (fun _ => ?_)
                    · refine gk_goto (pc := 419) 848 d_L_law_419 rfl ?_
                      refine gk_weak [1, 2, 3, 4, 5, 6] (L' := [(0, va_rf v0), (1, va_rf v1), (2, va_rf v2), (3, va_rf v3), (4, va_rf v4), (5, .int v5)]) rfl ?_
                      exact p_L_law_b848 d (f_L_law_b28 fu) q28 v0 v1 v2 v3 v4 v5 h21
                    · refine gk_iconst (pc := 417) (0 : Int32) d_L_law_417 rfl ?_
                      exact gk_zret (pc := 418) rfl d_L_law_418 rfl
                  ·
                    refine gk_ite (fun z44_7 => ?_) (fun z44_7 => ?_)
                    · refine gk_tsw_in (pc := 44) (7 : Int32) 422 d_L_law_44 z44_7 (by decide) (by decide) rfl rfl ?_
                      refine gk_aload_n (pc := 422) 1 d_L_law_422 rfl ?_
                      refine gk_callSH (pc := 423) (d := (d + 12)) (w' := gv_I) (as := [va_rf v1]) (n := 1) d_L_law_423 rfl rfl (Nat.le_of_ble_eq_true rfl) tw_1567 tw_1568 tw_90 cw_L_drop hy_L_drop (Nat.le_of_ble_eq_true rfl) (p_L_drop (d + 3) v1 h) fun x40 h22 => ?_
                      refine gk_istore (pc := 426) (L' := [(6, .int x40), (0, va_rf v0), (1, va_rf v1), (2, va_rf v2), (3, va_rf v3), (4, va_rf v4), (5, .int v5)]) d_L_law_426 (Nat.le_of_ble_eq_true rfl) rfl ?_
                      refine gk_aload_n (pc := 428) 3 d_L_law_428 rfl ?_
                      refine gk_callV (pc := 429) (d := (d + 12)) (w' := gv_V) (as := []) (n := 0) 7 d_L_law_429 rfl rfl rfl rfl (Nat.le_of_ble_eq_true rfl) tw_1757 tw_1758 tw_1759 tw_99 cw_M_drop hy_M_drop (Nat.le_of_ble_eq_true rfl) (p_M_drop (d + 12) v2 h22) fun _ h23 => ?_
                      refine gk_aload_n (pc := 432) 3 d_L_law_432 rfl ?_
                      refine gk_callV (pc := 433) (d := (d + 12)) (w' := gv_I) (as := []) (n := 0) 7 d_L_law_433 rfl rfl rfl rfl (Nat.le_of_ble_eq_true rfl) tw_1721 tw_1722 tw_1723 tw_99 cw_M_thrown hy_M_thrown (Nat.le_of_ble_eq_true rfl) (p_M_thrown (d + 12) v2 h23) fun x41 h24 => ?_
                      refine gk_iload (pc := 436) 0 d_L_law_436 rfl ?_
                      refine gk_icmp_eq (pc := 438) 443 d_L_law_438 rfl (fun _ => ?_) (fun _ => ?_)
                      · refine gk_goto (pc := 443) 848 d_L_law_443 rfl ?_
                        refine gk_weak [1, 2, 3, 4, 5, 6] (L' := [(0, va_rf v0), (1, va_rf v1), (2, va_rf v2), (3, va_rf v3), (4, va_rf v4), (5, .int v5)]) rfl ?_
                        exact p_L_law_b848 d (f_L_law_b28 fu) q28 v0 v1 v2 v3 v4 v5 h24
                      · refine gk_iconst (pc := 441) (0 : Int32) d_L_law_441 rfl ?_
                        exact gk_zret (pc := 442) rfl d_L_law_442 rfl
                    ·
                      refine gk_ite (fun z44_8 => ?_) (fun z44_8 => ?_)
                      · refine gk_tsw_in (pc := 44) (8 : Int32) 446 d_L_law_44 z44_8 (by decide) (by decide) rfl rfl ?_
                        refine gk_aload_n (pc := 446) 1 d_L_law_446 rfl ?_
                        refine gk_aload_n (pc := 447) 0 d_L_law_447 rfl ?_
                        refine gk_iload (pc := 448) 5 d_L_law_448 rfl ?_
                        refine gk_iconst (pc := 450) (1 : Int32) d_L_law_450 rfl ?_
                        refine gk_iadd (pc := 451) d_L_law_451 ?_
                        refine gk_iald (pc := 452) d_L_law_452 fun x42 => ?_
                        refine gk_callSH (pc := 453) (d := (d + 12)) (w' := gv_I) (as := [va_rf v1, .int x42]) (n := 2) d_L_law_453 rfl rfl (Nat.le_of_ble_eq_true rfl) tw_1575 tw_1576 tw_90 cw_L_again hy_L_again (Nat.le_of_ble_eq_true rfl) (p_L_again (d + 2) v1 x42 h) fun x43 h25 => ?_
                        refine gk_istore (pc := 456) (L' := [(6, .int x43), (0, va_rf v0), (1, va_rf v1), (2, va_rf v2), (3, va_rf v3), (4, va_rf v4), (5, .int v5)]) d_L_law_456 (Nat.le_of_ble_eq_true rfl) rfl ?_
                        refine gk_aload_n (pc := 458) 3 d_L_law_458 rfl ?_
                        refine gk_aload_n (pc := 459) 1 d_L_law_459 rfl ?_
                        refine gk_iload (pc := 460) 6 d_L_law_460 rfl ?_
                        refine gk_iconst (pc := 462) (1 : Int32) d_L_law_462 rfl ?_
                        refine gk_iadd (pc := 463) d_L_law_463 ?_
                        refine gk_iald (pc := 464) d_L_law_464 fun x44 => ?_
                        refine gk_callV (pc := 465) (d := (d + 12)) (w' := gv_V) (as := [.int x44]) (n := 1) 7 d_L_law_465 rfl rfl rfl rfl (Nat.le_of_ble_eq_true rfl) tw_1761 tw_1762 tw_1763 tw_99 cw_M_again hy_M_again (Nat.le_of_ble_eq_true rfl) (p_M_again (d + 10) v2 x44 h25) fun _ h26 => ?_
                        refine gk_aload_n (pc := 468) 3 d_L_law_468 rfl ?_
                        refine gk_callV (pc := 469) (d := (d + 12)) (w' := gv_I) (as := []) (n := 0) 7 d_L_law_469 rfl rfl rfl rfl (Nat.le_of_ble_eq_true rfl) tw_1721 tw_1722 tw_1723 tw_99 cw_M_thrown hy_M_thrown (Nat.le_of_ble_eq_true rfl) (p_M_thrown (d + 12) v2 h26) fun x45 h27 => ?_
                        refine gk_iload (pc := 472) 0 d_L_law_472 rfl ?_
                        refine gk_icmp_eq (pc := 474) 479 d_L_law_474 rfl (fun _ => ?_) (fun _ => ?_)
                        · refine gk_goto (pc := 479) 848 d_L_law_479 rfl ?_
                          refine gk_weak [1, 2, 3, 4, 5, 6] (L' := [(0, va_rf v0), (1, va_rf v1), (2, va_rf v2), (3, va_rf v3), (4, va_rf v4), (5, .int v5)]) rfl ?_
                          exact p_L_law_b848 d (f_L_law_b28 fu) q28 v0 v1 v2 v3 v4 v5 h27
                        · refine gk_iconst (pc := 477) (0 : Int32) d_L_law_477 rfl ?_
                          exact gk_zret (pc := 478) rfl d_L_law_478 rfl
                      ·
                        refine gk_ite (fun z44_9 => ?_) (fun z44_9 => ?_)
                        · refine gk_tsw_in (pc := 44) (9 : Int32) 482 d_L_law_44 z44_9 (by decide) (by decide) rfl rfl ?_
                          refine gk_aload_n (pc := 482) 1 d_L_law_482 rfl ?_
                          refine gk_callV (pc := 483) (d := (d + 12)) (w' := gv_I) (as := []) (n := 0) 5 d_L_law_483 rfl rfl rfl rfl (Nat.le_of_ble_eq_true rfl) tw_304 tw_305 tw_306 tw_91 cw_A_size hy_A_size (Nat.le_of_ble_eq_true rfl) (p_A_size (d + 12) v1 h) fun x46 h28 => ?_
                          refine gk_aload_n (pc := 486) 2 d_L_law_486 rfl ?_
                          refine gk_callV (pc := 487) (d := (d + 12)) (w' := gv_I) (as := []) (n := 0) 7 d_L_law_487 rfl rfl rfl rfl (Nat.le_of_ble_eq_true rfl) tw_1769 tw_1770 tw_1771 tw_99 cw_M_size hy_M_size (Nat.le_of_ble_eq_true rfl) (p_M_size (d + 12) v2 h28) fun x47 h29 => ?_
                          refine gk_icmp_eq (pc := 490) 848 d_L_law_490 rfl (fun _ => ?_) (fun _ => ?_)
                          · exact p_L_law_b848 d (f_L_law_b28 fu) q28 v0 v1 v2 v3 v4 v5 h29
                          · refine gk_iconst (pc := 493) (0 : Int32) d_L_law_493 rfl ?_
                            exact gk_zret (pc := 494) rfl d_L_law_494 rfl
                        ·
                          refine gk_ite (fun z44_10 => ?_) (fun z44_10 => ?_)
                          · refine gk_tsw_in (pc := 44) (10 : Int32) 495 d_L_law_44 z44_10 (by decide) (by decide) rfl rfl ?_
                            refine gk_aload_n (pc := 495) 1 d_L_law_495 rfl ?_
                            refine gk_aload_n (pc := 496) 0 d_L_law_496 rfl ?_
                            refine gk_iload (pc := 497) 5 d_L_law_497 rfl ?_
                            refine gk_iconst (pc := 499) (1 : Int32) d_L_law_499 rfl ?_
                            refine gk_iadd (pc := 500) d_L_law_500 ?_
                            refine gk_iald (pc := 501) d_L_law_501 fun x48 => ?_
                            refine gk_aload_n (pc := 502) 0 d_L_law_502 rfl ?_
                            refine gk_iload (pc := 503) 5 d_L_law_503 rfl ?_
                            refine gk_iconst (pc := 505) (2 : Int32) d_L_law_505 rfl ?_
                            refine gk_iadd (pc := 506) d_L_law_506 ?_
                            refine gk_iald (pc := 507) d_L_law_507 fun x49 => ?_
                            refine gk_aload_n (pc := 508) 3 d_L_law_508 rfl ?_
                            refine gk_callSH (pc := 509) (d := (d + 12)) (w' := gv_I) (as := [va_rf v1, .int x48, .int x49, va_rf v3]) (n := 4) d_L_law_509 rfl rfl (Nat.le_of_ble_eq_true rfl) tw_1600 tw_1601 tw_90 cw_L_about hy_L_about (Nat.le_of_ble_eq_true rfl) (p_L_about (d + 2) v1 x48 x49 v3 h) fun x50 h30 => ?_
                            refine gk_istore (pc := 512) (L' := [(6, .int x50), (0, va_rf v0), (1, va_rf v1), (2, va_rf v2), (3, va_rf v3), (4, va_rf v4), (5, .int v5)]) d_L_law_512 (Nat.le_of_ble_eq_true rfl) rfl ?_
                            refine gk_aload_n (pc := 514) 3 d_L_law_514 rfl ?_
                            refine gk_aload_n (pc := 515) 1 d_L_law_515 rfl ?_
                            refine gk_iload (pc := 516) 6 d_L_law_516 rfl ?_
                            refine gk_iconst (pc := 518) (1 : Int32) d_L_law_518 rfl ?_
                            refine gk_iadd (pc := 519) d_L_law_519 ?_
                            refine gk_iald (pc := 520) d_L_law_520 fun x51 => ?_
                            refine gk_aload_n (pc := 521) 1 d_L_law_521 rfl ?_
                            refine gk_iload (pc := 522) 6 d_L_law_522 rfl ?_
                            refine gk_iconst (pc := 524) (2 : Int32) d_L_law_524 rfl ?_
                            refine gk_iadd (pc := 525) d_L_law_525 ?_
                            refine gk_iald (pc := 526) d_L_law_526 fun x52 => ?_
                            refine gk_callV (pc := 527) (d := (d + 12)) (w' := gv_I) (as := [.int x51, .int x52]) (n := 2) 7 d_L_law_527 rfl rfl rfl rfl (Nat.le_of_ble_eq_true rfl) tw_1773 tw_1774 tw_1775 tw_99 cw_M_about hy_M_about (Nat.le_of_ble_eq_true rfl) (p_M_about (d + 12) v2 x51 x52 h30) fun x53 h31 => ?_
                            refine gk_istore (pc := 530) (L' := [(7, .int x53), (6, .int x50), (0, va_rf v0), (1, va_rf v1), (2, va_rf v2), (3, va_rf v3), (4, va_rf v4), (5, .int v5)]) d_L_law_530 (Nat.le_of_ble_eq_true rfl) rfl ?_
                            refine gk_aload_n (pc := 532) 4 d_L_law_532 rfl ?_
                            refine gk_callV (pc := 533) (d := (d + 12)) (w' := gv_I) (as := []) (n := 0) 7 d_L_law_533 rfl rfl rfl rfl (Nat.le_of_ble_eq_true rfl) tw_1721 tw_1722 tw_1723 tw_99 cw_M_thrown hy_M_thrown (Nat.le_of_ble_eq_true rfl) (p_M_thrown (d + 12) v2 h31) fun x54 h32 => ?_
                            refine gk_iload (pc := 536) 1 d_L_law_536 rfl ?_
                            refine gk_icmp_eq (pc := 538) 543 d_L_law_538 rfl (fun _ => ?_) (fun _ => ?_)
                            · refine gk_iload (pc := 543) 1 d_L_law_543 rfl ?_
                              refine gk_if_ne (pc := 545) 560 d_L_law_545 rfl (fun _ => ?_) (fun _ => ?_)
                              · refine gk_aload_n (pc := 548) 5 d_L_law_548 rfl ?_
                                refine gk_iconst (pc := 549) (0 : Int32) d_L_law_549 rfl ?_
                                refine gk_lald (pc := 550) d_L_law_550 fun x55 => ?_
                                refine gk_iload (pc := 551) 0 d_L_law_551 rfl ?_
                                refine gk_i2l (pc := 553) d_L_law_553 ?_
                                refine gk_lcmp (pc := 554) d_L_law_554 ?_
                                refine gk_if_eq (pc := 555) 560 d_L_law_555 rfl (fun _ => ?_) (fun _ => ?_)
                                · refine gk_weak [2, 3, 4, 5, 6, 7] (L' := [(0, va_rf v0), (1, va_rf v1), (2, va_rf v2), (3, va_rf v3), (4, va_rf v4), (5, .int v5)]) rfl ?_
                                  exact p_L_law_b560 d (f_L_law_b28 fu) q28 v0 v1 v2 v3 v4 v5 h32
                                · refine gk_iconst (pc := 558) (0 : Int32) d_L_law_558 rfl ?_
                                  exact gk_zret (pc := 559) rfl d_L_law_559 rfl
                              · refine gk_weak [2, 3, 4, 5, 6, 7] (L' := [(0, va_rf v0), (1, va_rf v1), (2, va_rf v2), (3, va_rf v3), (4, va_rf v4), (5, .int v5)]) rfl ?_
                                exact p_L_law_b560 d (f_L_law_b28 fu) q28 v0 v1 v2 v3 v4 v5 h32
                            · refine gk_iconst (pc := 541) (0 : Int32) d_L_law_541 rfl ?_
                              exact gk_zret (pc := 542) rfl d_L_law_542 rfl
                          ·
                            refine gk_ite (fun z44_11 => ?_) (fun z44_11 => ?_)
                            · refine gk_tsw_in (pc := 44) (11 : Int32) 563 d_L_law_44 z44_11 (by decide) (by decide) rfl rfl ?_
                              refine gk_aload_n (pc := 563) 1 d_L_law_563 rfl ?_
                              refine gk_aload_n (pc := 564) 0 d_L_law_564 rfl ?_
                              refine gk_iload (pc := 565) 5 d_L_law_565 rfl ?_
                              refine gk_iconst (pc := 567) (1 : Int32) d_L_law_567 rfl ?_
                              refine gk_iadd (pc := 568) d_L_law_568 ?_
                              refine gk_iald (pc := 569) d_L_law_569 fun x56 => ?_
                              refine gk_aload_n (pc := 570) 0 d_L_law_570 rfl ?_
                              refine gk_iload (pc := 571) 5 d_L_law_571 rfl ?_
                              refine gk_iconst (pc := 573) (2 : Int32) d_L_law_573 rfl ?_
                              refine gk_iadd (pc := 574) d_L_law_574 ?_
                              refine gk_iald (pc := 575) d_L_law_575 fun x57 => ?_
                              refine gk_aload_n (pc := 576) 0 d_L_law_576 rfl ?_
                              refine gk_iload (pc := 577) 5 d_L_law_577 rfl ?_
                              refine gk_iconst (pc := 579) (3 : Int32) d_L_law_579 rfl ?_
                              refine gk_iadd (pc := 580) d_L_law_580 ?_
                              refine gk_iald (pc := 581) d_L_law_581 fun x58 => ?_
                              refine gk_aload_n (pc := 582) 0 d_L_law_582 rfl ?_
                              refine gk_iload (pc := 583) 5 d_L_law_583 rfl ?_
                              refine gk_iconst (pc := 585) (4 : Int32) d_L_law_585 rfl ?_
                              refine gk_iadd (pc := 586) d_L_law_586 ?_
                              refine gk_iald (pc := 587) d_L_law_587 fun x59 => ?_
                              refine gk_aload_n (pc := 588) 3 d_L_law_588 rfl ?_
                              refine gk_callSH (pc := 589) (d := (d + 12)) (w' := gv_I) (as := [va_rf v1, .int x56, .int x57, .int x58, .int x59, va_rf v3]) (n := 6) d_L_law_589 rfl rfl (Nat.le_of_ble_eq_true rfl) tw_1608 tw_1609 tw_90 cw_L_cell hy_L_cell (Nat.le_of_ble_eq_true rfl) (p_L_cell (d + 1) v1 x56 x57 x58 x59 v3 h) fun x60 h33 => ?_
                              refine gk_istore (pc := 592) (L' := [(6, .int x60), (0, va_rf v0), (1, va_rf v1), (2, va_rf v2), (3, va_rf v3), (4, va_rf v4), (5, .int v5)]) d_L_law_592 (Nat.le_of_ble_eq_true rfl) rfl ?_
                              refine gk_aload_n (pc := 594) 3 d_L_law_594 rfl ?_
                              refine gk_aload_n (pc := 595) 1 d_L_law_595 rfl ?_
                              refine gk_iload (pc := 596) 6 d_L_law_596 rfl ?_
                              refine gk_iconst (pc := 598) (1 : Int32) d_L_law_598 rfl ?_
                              refine gk_iadd (pc := 599) d_L_law_599 ?_
                              refine gk_iald (pc := 600) d_L_law_600 fun x61 => ?_
                              refine gk_aload_n (pc := 601) 1 d_L_law_601 rfl ?_
                              refine gk_iload (pc := 602) 6 d_L_law_602 rfl ?_
                              refine gk_iconst (pc := 604) (2 : Int32) d_L_law_604 rfl ?_
                              refine gk_iadd (pc := 605) d_L_law_605 ?_
                              refine gk_iald (pc := 606) d_L_law_606 fun x62 => ?_
                              refine gk_aload_n (pc := 607) 1 d_L_law_607 rfl ?_
                              refine gk_iload (pc := 608) 6 d_L_law_608 rfl ?_
                              refine gk_iconst (pc := 610) (3 : Int32) d_L_law_610 rfl ?_
                              refine gk_iadd (pc := 611) d_L_law_611 ?_
                              refine gk_iald (pc := 612) d_L_law_612 fun x63 => ?_
                              refine gk_aload_n (pc := 613) 1 d_L_law_613 rfl ?_
                              refine gk_iload (pc := 614) 6 d_L_law_614 rfl ?_
                              refine gk_iconst (pc := 616) (4 : Int32) d_L_law_616 rfl ?_
                              refine gk_iadd (pc := 617) d_L_law_617 ?_
                              refine gk_iald (pc := 618) d_L_law_618 fun x64 => ?_
                              refine gk_callV (pc := 619) (d := (d + 12)) (w' := gv_I) (as := [.int x61, .int x62, .int x63, .int x64]) (n := 4) 7 d_L_law_619 rfl rfl rfl rfl (Nat.le_of_ble_eq_true rfl) tw_1777 tw_1778 tw_1779 tw_99 cw_M_cell hy_M_cell (Nat.le_of_ble_eq_true rfl) (p_M_cell (d + 11) v2 x61 x62 x63 x64 h33) fun x65 h34 => ?_
                              refine gk_istore (pc := 622) (L' := [(7, .int x65), (6, .int x60), (0, va_rf v0), (1, va_rf v1), (2, va_rf v2), (3, va_rf v3), (4, va_rf v4), (5, .int v5)]) d_L_law_622 (Nat.le_of_ble_eq_true rfl) rfl ?_
                              refine gk_aload_n (pc := 624) 4 d_L_law_624 rfl ?_
                              refine gk_callV (pc := 625) (d := (d + 12)) (w' := gv_I) (as := []) (n := 0) 7 d_L_law_625 rfl rfl rfl rfl (Nat.le_of_ble_eq_true rfl) tw_1721 tw_1722 tw_1723 tw_99 cw_M_thrown hy_M_thrown (Nat.le_of_ble_eq_true rfl) (p_M_thrown (d + 12) v2 h34) fun x66 h35 => ?_
                              refine gk_iload (pc := 628) 1 d_L_law_628 rfl ?_
                              refine gk_icmp_eq (pc := 630) 635 d_L_law_630 rfl (fun _ => ?_) (fun _ => ?_)
                              · refine gk_iload (pc := 635) 1 d_L_law_635 rfl ?_
                                refine gk_if_ne (pc := 637) 652 d_L_law_637 rfl (fun _ => ?_) (fun _ => ?_)
                                · refine gk_aload_n (pc := 640) 5 d_L_law_640 rfl ?_
                                  refine gk_iconst (pc := 641) (0 : Int32) d_L_law_641 rfl ?_
                                  refine gk_lald (pc := 642) d_L_law_642 fun x67 => ?_
                                  refine gk_iload (pc := 643) 0 d_L_law_643 rfl ?_
                                  refine gk_i2l (pc := 645) d_L_law_645 ?_
                                  refine gk_lcmp (pc := 646) d_L_law_646 ?_
                                  refine gk_if_eq (pc := 647) 652 d_L_law_647 rfl (fun _ => ?_) (fun _ => ?_)
                                  · refine gk_weak [2, 3, 4, 5, 6, 7] (L' := [(0, va_rf v0), (1, va_rf v1), (2, va_rf v2), (3, va_rf v3), (4, va_rf v4), (5, .int v5)]) rfl ?_
                                    exact p_L_law_b652 d (f_L_law_b28 fu) q28 v0 v1 v2 v3 v4 v5 h35
                                  · refine gk_iconst (pc := 650) (0 : Int32) d_L_law_650 rfl ?_
                                    exact gk_zret (pc := 651) rfl d_L_law_651 rfl
                                · refine gk_weak [2, 3, 4, 5, 6, 7] (L' := [(0, va_rf v0), (1, va_rf v1), (2, va_rf v2), (3, va_rf v3), (4, va_rf v4), (5, .int v5)]) rfl ?_
                                  exact p_L_law_b652 d (f_L_law_b28 fu) q28 v0 v1 v2 v3 v4 v5 h35
                              · refine gk_iconst (pc := 633) (0 : Int32) d_L_law_633 rfl ?_
                                exact gk_zret (pc := 634) rfl d_L_law_634 rfl
                            ·
                              refine gk_ite (fun z44_12 => ?_) (fun z44_12 => ?_)
                              · refine gk_tsw_in (pc := 44) (12 : Int32) 655 d_L_law_44 z44_12 (by decide) (by decide) rfl rfl ?_
                                refine gk_aload_n (pc := 655) 1 d_L_law_655 rfl ?_
                                refine gk_aload_n (pc := 656) 0 d_L_law_656 rfl ?_
                                refine gk_iload (pc := 657) 5 d_L_law_657 rfl ?_
                                refine gk_iconst (pc := 659) (1 : Int32) d_L_law_659 rfl ?_
                                refine gk_iadd (pc := 660) d_L_law_660 ?_
                                refine gk_iald (pc := 661) d_L_law_661 fun x68 => ?_
                                refine gk_aload_n (pc := 662) 0 d_L_law_662 rfl ?_
                                refine gk_iload (pc := 663) 5 d_L_law_663 rfl ?_
                                refine gk_iconst (pc := 665) (2 : Int32) d_L_law_665 rfl ?_
                                refine gk_iadd (pc := 666) d_L_law_666 ?_
                                refine gk_iald (pc := 667) d_L_law_667 fun x69 => ?_
                                refine gk_aload_n (pc := 668) 0 d_L_law_668 rfl ?_
                                refine gk_iload (pc := 669) 5 d_L_law_669 rfl ?_
                                refine gk_iconst (pc := 671) (3 : Int32) d_L_law_671 rfl ?_
                                refine gk_iadd (pc := 672) d_L_law_672 ?_
                                refine gk_iald (pc := 673) d_L_law_673 fun x70 => ?_
                                refine gk_aload (pc := 674) 4 d_L_law_674 rfl ?_
                                refine gk_callSH (pc := 676) (d := (d + 12)) (w' := gv_I) (as := [va_rf v1, .int x68, .int x69, .int x70, va_rf v4]) (n := 5) d_L_law_676 rfl rfl (Nat.le_of_ble_eq_true rfl) tw_1623 tw_1624 tw_90 cw_L_value hy_L_value (Nat.le_of_ble_eq_true rfl) (p_L_value (d + 1) v1 x68 x69 x70 v4 h) fun x71 h36 => ?_
                                refine gk_istore (pc := 679) (L' := [(6, .int x71), (0, va_rf v0), (1, va_rf v1), (2, va_rf v2), (3, va_rf v3), (4, va_rf v4), (5, .int v5)]) d_L_law_679 (Nat.le_of_ble_eq_true rfl) rfl ?_
                                refine gk_aload_n (pc := 681) 3 d_L_law_681 rfl ?_
                                refine gk_aload_n (pc := 682) 1 d_L_law_682 rfl ?_
                                refine gk_iload (pc := 683) 6 d_L_law_683 rfl ?_
                                refine gk_iconst (pc := 685) (1 : Int32) d_L_law_685 rfl ?_
                                refine gk_iadd (pc := 686) d_L_law_686 ?_
                                refine gk_iald (pc := 687) d_L_law_687 fun x72 => ?_
                                refine gk_aload_n (pc := 688) 1 d_L_law_688 rfl ?_
                                refine gk_iload (pc := 689) 6 d_L_law_689 rfl ?_
                                refine gk_iconst (pc := 691) (2 : Int32) d_L_law_691 rfl ?_
                                refine gk_iadd (pc := 692) d_L_law_692 ?_
                                refine gk_iald (pc := 693) d_L_law_693 fun x73 => ?_
                                refine gk_aload_n (pc := 694) 1 d_L_law_694 rfl ?_
                                refine gk_iload (pc := 695) 6 d_L_law_695 rfl ?_
                                refine gk_iconst (pc := 697) (3 : Int32) d_L_law_697 rfl ?_
                                refine gk_iadd (pc := 698) d_L_law_698 ?_
                                refine gk_iald (pc := 699) d_L_law_699 fun x74 => ?_
                                refine gk_callV (pc := 700) (d := (d + 12)) (w' := gv_D) (as := [.int x72, .int x73, .int x74]) (n := 3) 7 d_L_law_700 rfl rfl rfl rfl (Nat.le_of_ble_eq_true rfl) tw_1785 tw_1786 tw_1787 tw_99 cw_M_value hy_M_value (Nat.le_of_ble_eq_true rfl) (p_M_value (d + 11) v2 x72 x73 x74 h36) fun x75 h37 => ?_
                                refine gk_dstore (pc := 703) (L' := [(7, .double x75), (6, .int x71), (0, va_rf v0), (1, va_rf v1), (2, va_rf v2), (3, va_rf v3), (4, va_rf v4), (5, .int v5)]) d_L_law_703 (Nat.le_of_ble_eq_true rfl) rfl ?_
                                refine gk_aload_n (pc := 705) 4 d_L_law_705 rfl ?_
                                refine gk_callV (pc := 706) (d := (d + 12)) (w' := gv_I) (as := []) (n := 0) 7 d_L_law_706 rfl rfl rfl rfl (Nat.le_of_ble_eq_true rfl) tw_1721 tw_1722 tw_1723 tw_99 cw_M_thrown hy_M_thrown (Nat.le_of_ble_eq_true rfl) (p_M_thrown (d + 12) v2 h37) fun x76 h38 => ?_
                                refine gk_iload (pc := 709) 1 d_L_law_709 rfl ?_
                                refine gk_icmp_eq (pc := 711) 716 d_L_law_711 rfl (fun _ => ?_) (fun _ => ?_)
                                · refine gk_iload (pc := 716) 1 d_L_law_716 rfl ?_
                                  refine gk_if_ne (pc := 718) 753 d_L_law_718 rfl (fun _ => ?_) (fun _ => ?_)
                                  · refine gk_aload (pc := 721) 6 d_L_law_721 rfl ?_
                                    refine gk_iconst (pc := 723) (0 : Int32) d_L_law_723 rfl ?_
                                    refine gk_dald (pc := 724) d_L_law_724 fun x77 => ?_
                                    refine gk_dload (pc := 725) 0 d_L_law_725 rfl ?_
                                    refine gk_dcmp (pc := 727) d_L_law_727 ?_
                                    refine gk_if_eq (pc := 728) 753 d_L_law_728 rfl (fun _ => ?_) (fun _ => ?_)
                                    · refine gk_weak [2, 3, 4, 5, 6, 7] (L' := [(0, va_rf v0), (1, va_rf v1), (2, va_rf v2), (3, va_rf v3), (4, va_rf v4), (5, .int v5)]) rfl ?_
                                      exact p_L_law_b753 d (f_L_law_b28 fu) q28 v0 v1 v2 v3 v4 v5 h38
                                    · refine gk_aload (pc := 731) 6 d_L_law_731 rfl ?_
                                      refine gk_iconst (pc := 733) (0 : Int32) d_L_law_733 rfl ?_
                                      refine gk_dald (pc := 734) d_L_law_734 fun x78 => ?_
                                      refine gk_aload (pc := 735) 6 d_L_law_735 rfl ?_
                                      refine gk_iconst (pc := 737) (0 : Int32) d_L_law_737 rfl ?_
                                      refine gk_dald (pc := 738) d_L_law_738 fun x79 => ?_
                                      refine gk_dcmp (pc := 739) d_L_law_739 ?_
                                      refine gk_if_eq (pc := 740) 751 d_L_law_740 rfl (fun _ => ?_) (fun _ => ?_)
                                      · refine gk_weak [] (L' := []) rfl ?_
                                        exact p_L_law_b751 d h38
                                      · refine gk_dload (pc := 743) 0 d_L_law_743 rfl ?_
                                        refine gk_dload (pc := 745) 0 d_L_law_745 rfl ?_
                                        refine gk_dcmp (pc := 747) d_L_law_747 ?_
                                        refine gk_if_ne (pc := 748) 753 d_L_law_748 rfl (fun _ => ?_) (fun _ => ?_)
                                        · refine gk_weak [] (L' := []) rfl ?_
                                          exact p_L_law_b751 d h38
                                        · refine gk_weak [2, 3, 4, 5, 6, 7] (L' := [(0, va_rf v0), (1, va_rf v1), (2, va_rf v2), (3, va_rf v3), (4, va_rf v4), (5, .int v5)]) rfl ?_
                                          exact p_L_law_b753 d (f_L_law_b28 fu) q28 v0 v1 v2 v3 v4 v5 h38
                                  · refine gk_weak [2, 3, 4, 5, 6, 7] (L' := [(0, va_rf v0), (1, va_rf v1), (2, va_rf v2), (3, va_rf v3), (4, va_rf v4), (5, .int v5)]) rfl ?_
                                    exact p_L_law_b753 d (f_L_law_b28 fu) q28 v0 v1 v2 v3 v4 v5 h38
                                · refine gk_iconst (pc := 714) (0 : Int32) d_L_law_714 rfl ?_
                                  exact gk_zret (pc := 715) rfl d_L_law_715 rfl
                              ·
                                refine gk_ite (fun z44_13 => ?_) (fun z44_13 => ?_)
                                · refine gk_tsw_in (pc := 44) (13 : Int32) 756 d_L_law_44 z44_13 (by decide) (by decide) rfl rfl ?_
                                  refine gk_aload_n (pc := 756) 1 d_L_law_756 rfl ?_
                                  refine gk_aload_n (pc := 757) 0 d_L_law_757 rfl ?_
                                  refine gk_iload (pc := 758) 5 d_L_law_758 rfl ?_
                                  refine gk_iconst (pc := 760) (1 : Int32) d_L_law_760 rfl ?_
                                  refine gk_iadd (pc := 761) d_L_law_761 ?_
                                  refine gk_iald (pc := 762) d_L_law_762 fun x80 => ?_
                                  refine gk_aload_n (pc := 763) 0 d_L_law_763 rfl ?_
                                  refine gk_iload (pc := 764) 5 d_L_law_764 rfl ?_
                                  refine gk_iconst (pc := 766) (2 : Int32) d_L_law_766 rfl ?_
                                  refine gk_iadd (pc := 767) d_L_law_767 ?_
                                  refine gk_iald (pc := 768) d_L_law_768 fun x81 => ?_
                                  refine gk_aload_n (pc := 769) 0 d_L_law_769 rfl ?_
                                  refine gk_iload (pc := 770) 5 d_L_law_770 rfl ?_
                                  refine gk_iconst (pc := 772) (3 : Int32) d_L_law_772 rfl ?_
                                  refine gk_iadd (pc := 773) d_L_law_773 ?_
                                  refine gk_iald (pc := 774) d_L_law_774 fun x82 => ?_
                                  refine gk_aload_n (pc := 775) 0 d_L_law_775 rfl ?_
                                  refine gk_iload (pc := 776) 5 d_L_law_776 rfl ?_
                                  refine gk_iconst (pc := 778) (4 : Int32) d_L_law_778 rfl ?_
                                  refine gk_iadd (pc := 779) d_L_law_779 ?_
                                  refine gk_iald (pc := 780) d_L_law_780 fun x83 => ?_
                                  refine gk_aload_n (pc := 781) 3 d_L_law_781 rfl ?_
                                  refine gk_callSH (pc := 782) (d := (d + 12)) (w' := gv_I) (as := [va_rf v1, .int x80, .int x81, .int x82, .int x83, va_rf v3]) (n := 6) d_L_law_782 rfl rfl (Nat.le_of_ble_eq_true rfl) tw_1630 tw_1631 tw_90 cw_L_letter hy_L_letter (Nat.le_of_ble_eq_true rfl) (p_L_letter (d + 1) v1 x80 x81 x82 x83 v3 h) fun x84 h39 => ?_
                                  refine gk_istore (pc := 785) (L' := [(6, .int x84), (0, va_rf v0), (1, va_rf v1), (2, va_rf v2), (3, va_rf v3), (4, va_rf v4), (5, .int v5)]) d_L_law_785 (Nat.le_of_ble_eq_true rfl) rfl ?_
                                  refine gk_aload_n (pc := 787) 3 d_L_law_787 rfl ?_
                                  refine gk_aload_n (pc := 788) 1 d_L_law_788 rfl ?_
                                  refine gk_iload (pc := 789) 6 d_L_law_789 rfl ?_
                                  refine gk_iconst (pc := 791) (1 : Int32) d_L_law_791 rfl ?_
                                  refine gk_iadd (pc := 792) d_L_law_792 ?_
                                  refine gk_iald (pc := 793) d_L_law_793 fun x85 => ?_
                                  refine gk_aload_n (pc := 794) 1 d_L_law_794 rfl ?_
                                  refine gk_iload (pc := 795) 6 d_L_law_795 rfl ?_
                                  refine gk_iconst (pc := 797) (2 : Int32) d_L_law_797 rfl ?_
                                  refine gk_iadd (pc := 798) d_L_law_798 ?_
                                  refine gk_iald (pc := 799) d_L_law_799 fun x86 => ?_
                                  refine gk_aload_n (pc := 800) 1 d_L_law_800 rfl ?_
                                  refine gk_iload (pc := 801) 6 d_L_law_801 rfl ?_
                                  refine gk_iconst (pc := 803) (3 : Int32) d_L_law_803 rfl ?_
                                  refine gk_iadd (pc := 804) d_L_law_804 ?_
                                  refine gk_iald (pc := 805) d_L_law_805 fun x87 => ?_
                                  refine gk_aload_n (pc := 806) 1 d_L_law_806 rfl ?_
                                  refine gk_iload (pc := 807) 6 d_L_law_807 rfl ?_
                                  refine gk_iconst (pc := 809) (4 : Int32) d_L_law_809 rfl ?_
                                  refine gk_iadd (pc := 810) d_L_law_810 ?_
                                  refine gk_iald (pc := 811) d_L_law_811 fun x88 => ?_
                                  refine gk_callV (pc := 812) (d := (d + 12)) (w' := gv_I) (as := [.int x85, .int x86, .int x87, .int x88]) (n := 4) 7 d_L_law_812 rfl rfl rfl rfl (Nat.le_of_ble_eq_true rfl) tw_1789 tw_1790 tw_1791 tw_99 cw_M_letter hy_M_letter (Nat.le_of_ble_eq_true rfl) (p_M_letter (d + 11) v2 x85 x86 x87 x88 h39) fun x89 h40 => ?_
                                  refine gk_istore (pc := 815) (L' := [(7, .int x89), (6, .int x84), (0, va_rf v0), (1, va_rf v1), (2, va_rf v2), (3, va_rf v3), (4, va_rf v4), (5, .int v5)]) d_L_law_815 (Nat.le_of_ble_eq_true rfl) rfl ?_
                                  refine gk_aload_n (pc := 817) 4 d_L_law_817 rfl ?_
                                  refine gk_callV (pc := 818) (d := (d + 12)) (w' := gv_I) (as := []) (n := 0) 7 d_L_law_818 rfl rfl rfl rfl (Nat.le_of_ble_eq_true rfl) tw_1721 tw_1722 tw_1723 tw_99 cw_M_thrown hy_M_thrown (Nat.le_of_ble_eq_true rfl) (p_M_thrown (d + 12) v2 h40) fun x90 h41 => ?_
                                  refine gk_iload (pc := 821) 1 d_L_law_821 rfl ?_
                                  refine gk_icmp_eq (pc := 823) 828 d_L_law_823 rfl (fun _ => ?_) (fun _ => ?_)
                                  · refine gk_iload (pc := 828) 1 d_L_law_828 rfl ?_
                                    refine gk_if_ne (pc := 830) 845 d_L_law_830 rfl (fun _ => ?_) (fun _ => ?_)
                                    · refine gk_aload_n (pc := 833) 5 d_L_law_833 rfl ?_
                                      refine gk_iconst (pc := 834) (0 : Int32) d_L_law_834 rfl ?_
                                      refine gk_lald (pc := 835) d_L_law_835 fun x91 => ?_
                                      refine gk_iload (pc := 836) 0 d_L_law_836 rfl ?_
                                      refine gk_i2l (pc := 838) d_L_law_838 ?_
                                      refine gk_lcmp (pc := 839) d_L_law_839 ?_
                                      refine gk_if_eq (pc := 840) 845 d_L_law_840 rfl (fun _ => ?_) (fun _ => ?_)
                                      · refine gk_weak [2, 3, 4, 5, 6, 7] (L' := [(0, va_rf v0), (1, va_rf v1), (2, va_rf v2), (3, va_rf v3), (4, va_rf v4), (5, .int v5)]) rfl ?_
                                        exact p_L_law_b845 d (f_L_law_b28 fu) q28 v0 v1 v2 v3 v4 v5 h41
                                      · refine gk_iconst (pc := 843) (0 : Int32) d_L_law_843 rfl ?_
                                        exact gk_zret (pc := 844) rfl d_L_law_844 rfl
                                    · refine gk_weak [2, 3, 4, 5, 6, 7] (L' := [(0, va_rf v0), (1, va_rf v1), (2, va_rf v2), (3, va_rf v3), (4, va_rf v4), (5, .int v5)]) rfl ?_
                                      exact p_L_law_b845 d (f_L_law_b28 fu) q28 v0 v1 v2 v3 v4 v5 h41
                                  · refine gk_iconst (pc := 826) (0 : Int32) d_L_law_826 rfl ?_
                                    exact gk_zret (pc := 827) rfl d_L_law_827 rfl
                                ·
                                  refine gk_tsw_out (pc := 44) 848 d_L_law_44 (by have e0 := gk_neT z44_0 (by decide : (0 : Int32).toInt = 0); have e1 := gk_neT z44_1 (by decide : (1 : Int32).toInt = 1); have e2 := gk_neT z44_2 (by decide : (2 : Int32).toInt = 2); have e3 := gk_neT z44_3 (by decide : (3 : Int32).toInt = 3); have e4 := gk_neT z44_4 (by decide : (4 : Int32).toInt = 4); have e5 := gk_neT z44_5 (by decide : (5 : Int32).toInt = 5); have e6 := gk_neT z44_6 (by decide : (6 : Int32).toInt = 6); have e7 := gk_neT z44_7 (by decide : (7 : Int32).toInt = 7); have e8 := gk_neT z44_8 (by decide : (8 : Int32).toInt = 8); have e9 := gk_neT z44_9 (by decide : (9 : Int32).toInt = 9); have e10 := gk_neT z44_10 (by decide : (10 : Int32).toInt = 10); have e11 := gk_neT z44_11 (by decide : (11 : Int32).toInt = 11); have e12 := gk_neT z44_12 (by decide : (12 : Int32).toInt = 12); have e13 := gk_neT z44_13 (by decide : (13 : Int32).toInt = 13); omega) rfl ?_
                                  exact p_L_law_b848 d (f_L_law_b28 fu) q28 v0 v1 v2 v3 v4 v5 h
theorem w_L_law (d : Nat) (a0 : Option Nat) (h : gk_H) : gk_P gw_I (d + 13) y_L_law b_L_law 9 (some .boolean) [] (f_L_law a0 h) 0 [(0, va_rf a0)] [] h := by
  unfold f_L_law
  refine gk_newO (pc := 0) 5 4 d_L_law_0 rfl tw_125 tw_126 tw_91 fun x1 h1 => ?_
  refine gk_dup (pc := 3) d_L_law_3 (gk_cat_rf _) ?_
  refine gk_callI (pc := 4) (d := (d + 12)) (w' := gv_V) (as := []) (n := 0) 5 d_L_law_4 rfl rfl (by simp [gk_cat_rf, gk_catI, gk_catJ, gk_catD, gv_V, gv_I, gv_J, gv_D, gv_R]) tw_127 tw_128 tw_91 cw_A_init rfl hy_A_init (Nat.le_of_ble_eq_true rfl) (p_A_init (d + 8) x1 h1) fun _ h2 => ?_
  refine gk_astore_n (pc := 7) (L' := [(1, va_rf x1), (0, va_rf a0)]) d_L_law_7 (Nat.le_of_ble_eq_true rfl) (by simp [gk_s1, gk_s2, gk_cat_rf, gk_catI, gk_catJ, gk_catD] <;> decide) ?_
  refine gk_newO (pc := 8) 7 25 d_L_law_8 rfl tw_1638 tw_1639 tw_99 fun x2 h3 => ?_
  refine gk_dup (pc := 11) d_L_law_11 (gk_cat_rf _) ?_
  refine gk_callI (pc := 12) (d := (d + 12)) (w' := gv_V) (as := []) (n := 0) 7 d_L_law_12 rfl rfl (by simp [gk_cat_rf, gk_catI, gk_catJ, gk_catD, gv_V, gv_I, gv_J, gv_D, gv_R]) tw_1640 tw_1641 tw_99 cw_M_init rfl hy_M_init (Nat.le_of_ble_eq_true rfl) (p_M_init (d + 11) x2 h3) fun _ h4 => ?_
  refine gk_astore_n (pc := 15) (L' := [(2, va_rf x2), (1, va_rf x1), (0, va_rf a0)]) d_L_law_15 (Nat.le_of_ble_eq_true rfl) (by simp [gk_s1, gk_s2, gk_cat_rf, gk_catI, gk_catJ, gk_catD] <;> decide) ?_
  refine gk_iconst (pc := 16) (1 : Int32) d_L_law_16 rfl ?_
  refine gk_newA (pc := 17) 2 d_L_law_17 rfl tw_2180 (Nat.le_of_ble_eq_true rfl) fun x3 h5 => ?_
  refine gk_astore_n (pc := 19) (L' := [(3, va_rf x3), (2, va_rf x2), (1, va_rf x1), (0, va_rf a0)]) d_L_law_19 (Nat.le_of_ble_eq_true rfl) (by simp [gk_s1, gk_s2, gk_cat_rf, gk_catI, gk_catJ, gk_catD] <;> decide) ?_
  refine gk_iconst (pc := 20) (1 : Int32) d_L_law_20 rfl ?_
  refine gk_newA (pc := 21) 6 d_L_law_21 rfl tw_234 (Nat.le_of_ble_eq_true rfl) fun x4 h6 => ?_
  refine gk_astore (pc := 23) (L' := [(4, va_rf x4), (3, va_rf x3), (2, va_rf x2), (1, va_rf x1), (0, va_rf a0)]) d_L_law_23 (Nat.le_of_ble_eq_true rfl) (by simp [gk_s1, gk_s2, gk_cat_rf, gk_catI, gk_catJ, gk_catD] <;> decide) ?_
  refine gk_iconst (pc := 25) (0 : Int32) d_L_law_25 rfl ?_
  refine gk_istore (pc := 26) (L' := [(5, .int (0 : Int32)), (4, va_rf x4), (3, va_rf x3), (2, va_rf x2), (1, va_rf x1), (0, va_rf a0)]) d_L_law_26 (Nat.le_of_ble_eq_true rfl) (by simp [gk_s1, gk_s2, gk_cat_rf, gk_catI, gk_catJ, gk_catD] <;> decide) ?_
  refine gk_weak [5, 4, 3, 2, 1, 0] (L' := [(0, va_rf a0), (1, va_rf x1), (2, va_rf x2), (3, va_rf x3), (4, va_rf x4), (5, .int (0 : Int32))]) rfl ?_
  exact p_L_law_b28 d gk_F a0 x1 x2 x3 x4 (0 : Int32) h6
