/-! ROWS: one an instruction, over gk_P -/
def gk_ref (v : Option Nat) : Value := va_rf v
theorem gk_v_ref (ad : Nat → Nat) (r : Option Nat) : gk_v ad (va_rf r) = va_rf (r.map ad) := by cases r <;> rfl
theorem gk_dr1 {n : Nat} {a : Value} {l : List Value} (h : ∀ v ∈ a :: l, gk_ok n v) : ∀ v ∈ l, gk_ok n v := (List.forall_mem_cons.mp h).2
theorem gk_cn {n : Nat} {a : Value} {l : List Value} (ha : gk_ok n a) (h : ∀ v ∈ l, gk_ok n v) : ∀ v ∈ a :: l, gk_ok n v := List.forall_mem_cons.mpr ⟨ha, h⟩
theorem gk_hd {n : Nat} {a : Value} {l : List Value} (h : ∀ v ∈ a :: l, gk_ok n v) : gk_ok n a := (List.forall_mem_cons.mp h).1
section GKROWS
variable {ρ : Type} {w : ρ → gk_U} {d : Nat} {y : MethodName} {cc : ByteArray} {nL : Nat} {ret : Option FieldType} {et : List ExceptionTableEntry} {x : Option (ρ × gk_H)} {pc : Nat} {L : List (Nat × Value)} {st : List Value} {h : gk_H}
theorem gk_iconst {i : Int} (v : Int32) (hd : decode cc pc = .ok (.iconst i, 1)) (hv : Int32.ofInt i = v) (k : gk_P w d y cc nL ret et x (pc + 1) L (.int v :: st) h) : gk_P w d y cc nL ret et x pc L (st) h :=
  gk_step (st' := .int v :: st) (fun n hL hs => gk_cn trivial (hs)) (fun _ _ _ _ _ _ _ _ _ _ _ _ _ _ _ _ ad C hl k => lv_iconst C.1 C.2.1 hd hv k) k
theorem gk_bipush {i : Int} (v : Int32) (hd : decode cc pc = .ok (.bipush i, 2)) (hv : (Int8.ofInt i).toInt32 = v) (k : gk_P w d y cc nL ret et x (pc + 2) L (.int v :: st) h) : gk_P w d y cc nL ret et x pc L (st) h :=
  gk_step (st' := .int v :: st) (fun n hL hs => gk_cn trivial (hs)) (fun _ _ _ _ _ _ _ _ _ _ _ _ _ _ _ _ ad C hl k => lv_bipush C.1 C.2.1 hd hv k) k
theorem gk_sipush {i : Int} (v : Int32) (hd : decode cc pc = .ok (.sipush i, 3)) (hv : (Int16.ofInt i).toInt32 = v) (k : gk_P w d y cc nL ret et x (pc + 3) L (.int v :: st) h) : gk_P w d y cc nL ret et x pc L (st) h :=
  gk_step (st' := .int v :: st) (fun n hL hs => gk_cn trivial (hs)) (fun _ _ _ _ _ _ _ _ _ _ _ _ _ _ _ _ ad C hl k => lv_sipush C.1 C.2.1 hd hv k) k
theorem gk_lconst {i : Fin 2} (v : Int64) (hd : decode cc pc = .ok (.lconst i, 1)) (hv : Int64.ofNat (i : Nat) = v) (k : gk_P w d y cc nL ret et x (pc + 1) L (.long v :: st) h) : gk_P w d y cc nL ret et x pc L (st) h :=
  gk_step (st' := .long v :: st) (fun n hL hs => gk_cn trivial (hs)) (fun _ _ _ _ _ _ _ _ _ _ _ _ _ _ _ _ ad C hl k => lv_lconst C.1 C.2.1 hd hv k) k
theorem gk_dconst0  (hd : decode cc pc = .ok (.dconst 0, 1)) (k : gk_P w d y cc nL ret et x (pc + 1) L (.double 0x0000000000000000 :: st) h) : gk_P w d y cc nL ret et x pc L (st) h :=
  gk_step (st' := .double 0x0000000000000000 :: st) (fun n hL hs => gk_cn trivial (hs)) (fun _ _ _ _ _ _ _ _ _ _ _ _ _ _ _ _ ad C hl k => lv_dconst0 C.1 C.2.1 hd k) k
theorem gk_dconst1  (hd : decode cc pc = .ok (.dconst 1, 1)) (k : gk_P w d y cc nL ret et x (pc + 1) L (.double 0x3ff0000000000000 :: st) h) : gk_P w d y cc nL ret et x pc L (st) h :=
  gk_step (st' := .double 0x3ff0000000000000 :: st) (fun n hL hs => gk_cn trivial (hs)) (fun _ _ _ _ _ _ _ _ _ _ _ _ _ _ _ _ ad C hl k => lv_dconst1 C.1 C.2.1 hd k) k
theorem gk_anull  (hd : decode cc pc = .ok (.aconst_null, 1)) (k : gk_P w d y cc nL ret et x (pc + 1) L (va_rf none :: st) h) : gk_P w d y cc nL ret et x pc L (st) h :=
  gk_step (st' := va_rf none :: st) (fun n hL hs => gk_cn trivial (hs)) (fun _ _ _ _ _ _ _ _ _ _ _ _ _ _ _ _ ad C hl k => lv_null C.1 C.2.1 hd k) k
theorem gk_ldc {i : Nat} {v : Int32} (hw : Cond.constant y.cls i v ∈ gk_T) (hd : decode cc pc = .ok (.ldc i, 2)) (k : gk_P w d y cc nL ret et x (pc + 2) L (.int v :: st) h) : gk_P w d y cc nL ret et x pc L (st) h :=
  gk_step (st' := .int v :: st) (fun n hL hs => gk_cn trivial (hs)) (fun _ _ _ _ _ _ _ _ _ _ _ _ _ _ _ _ ad C hl k => lv_ldc C.1 C.2.1 C.2.2.2.2.1 (C.2.2.2.2.2.1 _ hw) hd k) k
theorem gk_ldcw {i : Nat} {v : Int32} (hw : Cond.constant y.cls i v ∈ gk_T) (hd : decode cc pc = .ok (.ldc_w i, 3)) (k : gk_P w d y cc nL ret et x (pc + 3) L (.int v :: st) h) : gk_P w d y cc nL ret et x pc L (st) h :=
  gk_step (st' := .int v :: st) (fun n hL hs => gk_cn trivial (hs)) (fun _ _ _ _ _ _ _ _ _ _ _ _ _ _ _ _ ad C hl k => lv_ldcw C.1 C.2.1 C.2.2.2.2.1 (C.2.2.2.2.2.1 _ hw) hd k) k
theorem gk_ldc2 {i : Nat} {v : Int64} (hw : Cond.constantLong y.cls i v ∈ gk_T) (hd : decode cc pc = .ok (.ldc2_w i, 3)) (k : gk_P w d y cc nL ret et x (pc + 3) L (.long v :: st) h) : gk_P w d y cc nL ret et x pc L (st) h :=
  gk_step (st' := .long v :: st) (fun n hL hs => gk_cn trivial (hs)) (fun _ _ _ _ _ _ _ _ _ _ _ _ _ _ _ _ ad C hl k => lv_ldc2 C.1 C.2.1 C.2.2.2.2.1 (C.2.2.2.2.2.1 _ hw) hd k) k
theorem gk_ldc2d {i : Nat} {v : UInt64} (hw : Cond.constantDouble y.cls i v ∈ gk_T) (hd : decode cc pc = .ok (.ldc2_w i, 3)) (k : gk_P w d y cc nL ret et x (pc + 3) L (.double v :: st) h) : gk_P w d y cc nL ret et x pc L (st) h :=
  gk_step (st' := .double v :: st) (fun n hL hs => gk_cn trivial (hs)) (fun _ _ _ _ _ _ _ _ _ _ _ _ _ _ _ _ ad C hl k => lv_ldc2d C.1 C.2.1 C.2.2.2.2.1 (C.2.2.2.2.2.1 _ hw) hd k) k
theorem gk_iadd {a b : Int32} (hd : decode cc pc = .ok (.iadd, 1)) (k : gk_P w d y cc nL ret et x (pc + 1) L (.int (a + b) :: st) h) : gk_P w d y cc nL ret et x pc L (.int b :: .int a :: st) h :=
  gk_step (st' := .int (a + b) :: st) (fun n hL hs => gk_cn trivial ((gk_dr1 (gk_dr1 hs)))) (fun _ _ _ _ _ _ _ _ _ _ _ _ _ _ _ _ ad C hl k => lv_iadd C.1 C.2.1 hd k) k
theorem gk_isub {a b : Int32} (hd : decode cc pc = .ok (.isub, 1)) (k : gk_P w d y cc nL ret et x (pc + 1) L (.int (a - b) :: st) h) : gk_P w d y cc nL ret et x pc L (.int b :: .int a :: st) h :=
  gk_step (st' := .int (a - b) :: st) (fun n hL hs => gk_cn trivial ((gk_dr1 (gk_dr1 hs)))) (fun _ _ _ _ _ _ _ _ _ _ _ _ _ _ _ _ ad C hl k => lv_isub C.1 C.2.1 hd k) k
theorem gk_imul {a b : Int32} (hd : decode cc pc = .ok (.imul, 1)) (k : gk_P w d y cc nL ret et x (pc + 1) L (.int (a * b) :: st) h) : gk_P w d y cc nL ret et x pc L (.int b :: .int a :: st) h :=
  gk_step (st' := .int (a * b) :: st) (fun n hL hs => gk_cn trivial ((gk_dr1 (gk_dr1 hs)))) (fun _ _ _ _ _ _ _ _ _ _ _ _ _ _ _ _ ad C hl k => lv_imul C.1 C.2.1 hd k) k
theorem gk_iand {a b : Int32} (hd : decode cc pc = .ok (.iand, 1)) (k : gk_P w d y cc nL ret et x (pc + 1) L (.int (a &&& b) :: st) h) : gk_P w d y cc nL ret et x pc L (.int b :: .int a :: st) h :=
  gk_step (st' := .int (a &&& b) :: st) (fun n hL hs => gk_cn trivial ((gk_dr1 (gk_dr1 hs)))) (fun _ _ _ _ _ _ _ _ _ _ _ _ _ _ _ _ ad C hl k => lv_iand C.1 C.2.1 hd k) k
theorem gk_ior {a b : Int32} (hd : decode cc pc = .ok (.ior, 1)) (k : gk_P w d y cc nL ret et x (pc + 1) L (.int (a ||| b) :: st) h) : gk_P w d y cc nL ret et x pc L (.int b :: .int a :: st) h :=
  gk_step (st' := .int (a ||| b) :: st) (fun n hL hs => gk_cn trivial ((gk_dr1 (gk_dr1 hs)))) (fun _ _ _ _ _ _ _ _ _ _ _ _ _ _ _ _ ad C hl k => lv_ior C.1 C.2.1 hd k) k
theorem gk_ixor {a b : Int32} (hd : decode cc pc = .ok (.ixor, 1)) (k : gk_P w d y cc nL ret et x (pc + 1) L (.int (a ^^^ b) :: st) h) : gk_P w d y cc nL ret et x pc L (.int b :: .int a :: st) h :=
  gk_step (st' := .int (a ^^^ b) :: st) (fun n hL hs => gk_cn trivial ((gk_dr1 (gk_dr1 hs)))) (fun _ _ _ _ _ _ _ _ _ _ _ _ _ _ _ _ ad C hl k => lv_ixor C.1 C.2.1 hd k) k
theorem gk_ladd {a b : Int64} (hd : decode cc pc = .ok (.ladd, 1)) (k : gk_P w d y cc nL ret et x (pc + 1) L (.long (a + b) :: st) h) : gk_P w d y cc nL ret et x pc L (.long b :: .long a :: st) h :=
  gk_step (st' := .long (a + b) :: st) (fun n hL hs => gk_cn trivial ((gk_dr1 (gk_dr1 hs)))) (fun _ _ _ _ _ _ _ _ _ _ _ _ _ _ _ _ ad C hl k => lv_ladd C.1 C.2.1 hd k) k
theorem gk_lsub {a b : Int64} (hd : decode cc pc = .ok (.lsub, 1)) (k : gk_P w d y cc nL ret et x (pc + 1) L (.long (a - b) :: st) h) : gk_P w d y cc nL ret et x pc L (.long b :: .long a :: st) h :=
  gk_step (st' := .long (a - b) :: st) (fun n hL hs => gk_cn trivial ((gk_dr1 (gk_dr1 hs)))) (fun _ _ _ _ _ _ _ _ _ _ _ _ _ _ _ _ ad C hl k => lv_lsub C.1 C.2.1 hd k) k
theorem gk_lmul {a b : Int64} (hd : decode cc pc = .ok (.lmul, 1)) (k : gk_P w d y cc nL ret et x (pc + 1) L (.long (a * b) :: st) h) : gk_P w d y cc nL ret et x pc L (.long b :: .long a :: st) h :=
  gk_step (st' := .long (a * b) :: st) (fun n hL hs => gk_cn trivial ((gk_dr1 (gk_dr1 hs)))) (fun _ _ _ _ _ _ _ _ _ _ _ _ _ _ _ _ ad C hl k => lv_lmul C.1 C.2.1 hd k) k
theorem gk_land {a b : Int64} (hd : decode cc pc = .ok (.land, 1)) (k : gk_P w d y cc nL ret et x (pc + 1) L (.long (a &&& b) :: st) h) : gk_P w d y cc nL ret et x pc L (.long b :: .long a :: st) h :=
  gk_step (st' := .long (a &&& b) :: st) (fun n hL hs => gk_cn trivial ((gk_dr1 (gk_dr1 hs)))) (fun _ _ _ _ _ _ _ _ _ _ _ _ _ _ _ _ ad C hl k => lv_land C.1 C.2.1 hd k) k
theorem gk_idiv {a b : Int32} (hne : ¬ b = 0) (hd : decode cc pc = .ok (.idiv, 1)) (k : gk_P w d y cc nL ret et x (pc + 1) L (.int (a / b) :: st) h) : gk_P w d y cc nL ret et x pc L (.int b :: .int a :: st) h :=
  gk_step (st' := .int (a / b) :: st) (fun n hL hs => gk_cn trivial ((gk_dr1 (gk_dr1 hs)))) (fun _ _ _ _ _ _ _ _ _ _ _ _ _ _ _ _ ad C hl k => lv_idiv C.1 C.2.1 hd hne k) k
theorem gk_irem {a b : Int32} (hne : ¬ b = 0) (hd : decode cc pc = .ok (.irem, 1)) (k : gk_P w d y cc nL ret et x (pc + 1) L (.int (a - a / b * b) :: st) h) : gk_P w d y cc nL ret et x pc L (.int b :: .int a :: st) h :=
  gk_step (st' := .int (a - a / b * b) :: st) (fun n hL hs => gk_cn trivial ((gk_dr1 (gk_dr1 hs)))) (fun _ _ _ _ _ _ _ _ _ _ _ _ _ _ _ _ ad C hl k => lv_irem C.1 C.2.1 hd hne k) k
theorem gk_ldiv {a b : Int64} (hne : ¬ b = 0) (hd : decode cc pc = .ok (.ldiv, 1)) (k : gk_P w d y cc nL ret et x (pc + 1) L (.long (a / b) :: st) h) : gk_P w d y cc nL ret et x pc L (.long b :: .long a :: st) h :=
  gk_step (st' := .long (a / b) :: st) (fun n hL hs => gk_cn trivial ((gk_dr1 (gk_dr1 hs)))) (fun _ _ _ _ _ _ _ _ _ _ _ _ _ _ _ _ ad C hl k => lv_ldiv C.1 C.2.1 hd hne k) k
theorem gk_lrem {a b : Int64} (hne : ¬ b = 0) (hd : decode cc pc = .ok (.lrem, 1)) (k : gk_P w d y cc nL ret et x (pc + 1) L (.long (a - a / b * b) :: st) h) : gk_P w d y cc nL ret et x pc L (.long b :: .long a :: st) h :=
  gk_step (st' := .long (a - a / b * b) :: st) (fun n hL hs => gk_cn trivial ((gk_dr1 (gk_dr1 hs)))) (fun _ _ _ _ _ _ _ _ _ _ _ _ _ _ _ _ ad C hl k => lv_lrem C.1 C.2.1 hd hne k) k
theorem gk_ineg {a : Int32} (hd : decode cc pc = .ok (.ineg, 1)) (k : gk_P w d y cc nL ret et x (pc + 1) L (.int (-a) :: st) h) : gk_P w d y cc nL ret et x pc L (.int a :: st) h :=
  gk_step (st' := .int (-a) :: st) (fun n hL hs => gk_cn trivial ((gk_dr1 hs))) (fun _ _ _ _ _ _ _ _ _ _ _ _ _ _ _ _ ad C hl k => lv_ineg C.1 C.2.1 hd k) k
theorem gk_lneg {a : Int64} (hd : decode cc pc = .ok (.lneg, 1)) (k : gk_P w d y cc nL ret et x (pc + 1) L (.long (-a) :: st) h) : gk_P w d y cc nL ret et x pc L (.long a :: st) h :=
  gk_step (st' := .long (-a) :: st) (fun n hL hs => gk_cn trivial ((gk_dr1 hs))) (fun _ _ _ _ _ _ _ _ _ _ _ _ _ _ _ _ ad C hl k => lv_lneg C.1 C.2.1 hd k) k
theorem gk_ishl {a b : Int32} (hd : decode cc pc = .ok (.ishl, 1)) (k : gk_P w d y cc nL ret et x (pc + 1) L (.int (a <<< (b &&& 31)) :: st) h) : gk_P w d y cc nL ret et x pc L (.int b :: .int a :: st) h :=
  gk_step (st' := .int (a <<< (b &&& 31)) :: st) (fun n hL hs => gk_cn trivial ((gk_dr1 (gk_dr1 hs)))) (fun _ _ _ _ _ _ _ _ _ _ _ _ _ _ _ _ ad C hl k => lv_ishl C.1 C.2.1 hd k) k
theorem gk_ishr {a b : Int32} (hd : decode cc pc = .ok (.ishr, 1)) (k : gk_P w d y cc nL ret et x (pc + 1) L (.int (a >>> (b &&& 31)) :: st) h) : gk_P w d y cc nL ret et x pc L (.int b :: .int a :: st) h :=
  gk_step (st' := .int (a >>> (b &&& 31)) :: st) (fun n hL hs => gk_cn trivial ((gk_dr1 (gk_dr1 hs)))) (fun _ _ _ _ _ _ _ _ _ _ _ _ _ _ _ _ ad C hl k => lv_ishr C.1 C.2.1 hd k) k
theorem gk_iushr {a b : Int32} (hd : decode cc pc = .ok (.iushr, 1)) (k : gk_P w d y cc nL ret et x (pc + 1) L (.int (a.toUInt32 >>> (b.toUInt32 &&& Int32.toUInt32 31)).toInt32 :: st) h) : gk_P w d y cc nL ret et x pc L (.int b :: .int a :: st) h :=
  gk_step (st' := .int (a.toUInt32 >>> (b.toUInt32 &&& Int32.toUInt32 31)).toInt32 :: st) (fun n hL hs => gk_cn trivial ((gk_dr1 (gk_dr1 hs)))) (fun _ _ _ _ _ _ _ _ _ _ _ _ _ _ _ _ ad C hl k => lv_iushr C.1 C.2.1 hd rfl k) k
theorem gk_lshr {a : Int64} {b : Int32} (hd : decode cc pc = .ok (.lshr, 1)) (k : gk_P w d y cc nL ret et x (pc + 1) L (.long (a >>> (b.toInt64 &&& 63)) :: st) h) : gk_P w d y cc nL ret et x pc L (.int b :: .long a :: st) h :=
  gk_step (st' := .long (a >>> (b.toInt64 &&& 63)) :: st) (fun n hL hs => gk_cn trivial ((gk_dr1 (gk_dr1 hs)))) (fun _ _ _ _ _ _ _ _ _ _ _ _ _ _ _ _ ad C hl k => lv_lshr C.1 C.2.1 hd rfl k) k
theorem gk_i2l {a : Int32} (hd : decode cc pc = .ok (.i2l, 1)) (k : gk_P w d y cc nL ret et x (pc + 1) L (.long a.toInt64 :: st) h) : gk_P w d y cc nL ret et x pc L (.int a :: st) h :=
  gk_step (st' := .long a.toInt64 :: st) (fun n hL hs => gk_cn trivial ((gk_dr1 hs))) (fun _ _ _ _ _ _ _ _ _ _ _ _ _ _ _ _ ad C hl k => lv_i2l C.1 C.2.1 hd rfl k) k
theorem gk_l2i {a : Int64} (hd : decode cc pc = .ok (.l2i, 1)) (k : gk_P w d y cc nL ret et x (pc + 1) L (.int a.toInt32 :: st) h) : gk_P w d y cc nL ret et x pc L (.long a :: st) h :=
  gk_step (st' := .int a.toInt32 :: st) (fun n hL hs => gk_cn trivial ((gk_dr1 hs))) (fun _ _ _ _ _ _ _ _ _ _ _ _ _ _ _ _ ad C hl k => lv_l2i C.1 C.2.1 hd rfl k) k
theorem gk_i2b {a : Int32} (hd : decode cc pc = .ok (.i2b, 1)) (k : gk_P w d y cc nL ret et x (pc + 1) L (.int a.toInt8.toInt32 :: st) h) : gk_P w d y cc nL ret et x pc L (.int a :: st) h :=
  gk_step (st' := .int a.toInt8.toInt32 :: st) (fun n hL hs => gk_cn trivial ((gk_dr1 hs))) (fun _ _ _ _ _ _ _ _ _ _ _ _ _ _ _ _ ad C hl k => lv_i2b C.1 C.2.1 hd rfl k) k
theorem gk_i2c {a : Int32} (hd : decode cc pc = .ok (.i2c, 1)) (k : gk_P w d y cc nL ret et x (pc + 1) L (.int (a.toUInt32 % 65536).toInt32 :: st) h) : gk_P w d y cc nL ret et x pc L (.int a :: st) h :=
  gk_step (st' := .int (a.toUInt32 % 65536).toInt32 :: st) (fun n hL hs => gk_cn trivial ((gk_dr1 hs))) (fun _ _ _ _ _ _ _ _ _ _ _ _ _ _ _ _ ad C hl k => lv_i2c C.1 C.2.1 hd rfl k) k
theorem gk_i2d {a : Int32} (hd : decode cc pc = .ok (.i2d, 1)) (k : gk_P w d y cc nL ret et x (pc + 1) L (.double (FP.i2d a) :: st) h) : gk_P w d y cc nL ret et x pc L (.int a :: st) h :=
  gk_step (st' := .double (FP.i2d a) :: st) (fun n hL hs => gk_cn trivial ((gk_dr1 hs))) (fun _ _ _ _ _ _ _ _ _ _ _ _ _ _ _ _ ad C hl k => lv_i2d C.1 C.2.1 hd k) k
theorem gk_l2d {a : Int64} (hd : decode cc pc = .ok (.l2d, 1)) (k : gk_P w d y cc nL ret et x (pc + 1) L (.double (FP.l2d a) :: st) h) : gk_P w d y cc nL ret et x pc L (.long a :: st) h :=
  gk_step (st' := .double (FP.l2d a) :: st) (fun n hL hs => gk_cn trivial ((gk_dr1 hs))) (fun _ _ _ _ _ _ _ _ _ _ _ _ _ _ _ _ ad C hl k => lv_l2d C.1 C.2.1 hd k) k
theorem gk_d2i {a : UInt64} (hd : decode cc pc = .ok (.d2i, 1)) (k : gk_P w d y cc nL ret et x (pc + 1) L (.int (FP.d2i a) :: st) h) : gk_P w d y cc nL ret et x pc L (.double a :: st) h :=
  gk_step (st' := .int (FP.d2i a) :: st) (fun n hL hs => gk_cn trivial ((gk_dr1 hs))) (fun _ _ _ _ _ _ _ _ _ _ _ _ _ _ _ _ ad C hl k => lv_d2i C.1 C.2.1 hd k) k
theorem gk_d2l {a : UInt64} (hd : decode cc pc = .ok (.d2l, 1)) (k : gk_P w d y cc nL ret et x (pc + 1) L (.long (FP.d2l a) :: st) h) : gk_P w d y cc nL ret et x pc L (.double a :: st) h :=
  gk_step (st' := .long (FP.d2l a) :: st) (fun n hL hs => gk_cn trivial ((gk_dr1 hs))) (fun _ _ _ _ _ _ _ _ _ _ _ _ _ _ _ _ ad C hl k => lv_d2l C.1 C.2.1 hd k) k
theorem gk_dadd {a b : UInt64} (hne : vf_n64 (FP.dadd a b)) (hd : decode cc pc = .ok (.dadd, 1)) (k : gk_P w d y cc nL ret et x (pc + 1) L (.double (FP.dadd a b) :: st) h) : gk_P w d y cc nL ret et x pc L (.double b :: .double a :: st) h :=
  gk_step (st' := .double (FP.dadd a b) :: st) (fun n hL hs => gk_cn trivial ((gk_dr1 (gk_dr1 hs)))) (fun _ _ _ _ _ _ _ _ _ _ _ _ _ _ _ _ ad C hl k => lv_dadd C.1 C.2.1 hd hne k) k
theorem gk_dsub {a b : UInt64} (hne : vf_n64 (FP.dsub a b)) (hd : decode cc pc = .ok (.dsub, 1)) (k : gk_P w d y cc nL ret et x (pc + 1) L (.double (FP.dsub a b) :: st) h) : gk_P w d y cc nL ret et x pc L (.double b :: .double a :: st) h :=
  gk_step (st' := .double (FP.dsub a b) :: st) (fun n hL hs => gk_cn trivial ((gk_dr1 (gk_dr1 hs)))) (fun _ _ _ _ _ _ _ _ _ _ _ _ _ _ _ _ ad C hl k => lv_dsub C.1 C.2.1 hd hne k) k
theorem gk_dmul {a b : UInt64} (hne : vf_n64 (FP.dmul a b)) (hd : decode cc pc = .ok (.dmul, 1)) (k : gk_P w d y cc nL ret et x (pc + 1) L (.double (FP.dmul a b) :: st) h) : gk_P w d y cc nL ret et x pc L (.double b :: .double a :: st) h :=
  gk_step (st' := .double (FP.dmul a b) :: st) (fun n hL hs => gk_cn trivial ((gk_dr1 (gk_dr1 hs)))) (fun _ _ _ _ _ _ _ _ _ _ _ _ _ _ _ _ ad C hl k => lv_dmul C.1 C.2.1 hd hne k) k
theorem gk_ddiv {a b : UInt64} (hne : vf_n64 (FP.ddiv a b)) (hd : decode cc pc = .ok (.ddiv, 1)) (k : gk_P w d y cc nL ret et x (pc + 1) L (.double (FP.ddiv a b) :: st) h) : gk_P w d y cc nL ret et x pc L (.double b :: .double a :: st) h :=
  gk_step (st' := .double (FP.ddiv a b) :: st) (fun n hL hs => gk_cn trivial ((gk_dr1 (gk_dr1 hs)))) (fun _ _ _ _ _ _ _ _ _ _ _ _ _ _ _ _ ad C hl k => lv_ddiv C.1 C.2.1 hd hne k) k
theorem gk_dneg {a : UInt64} (hd : decode cc pc = .ok (.dneg, 1)) (k : gk_P w d y cc nL ret et x (pc + 1) L (.double (FP.dneg a) :: st) h) : gk_P w d y cc nL ret et x pc L (.double a :: st) h :=
  gk_step (st' := .double (FP.dneg a) :: st) (fun n hL hs => gk_cn trivial ((gk_dr1 hs))) (fun _ _ _ _ _ _ _ _ _ _ _ _ _ _ _ _ ad C hl k => lv_dneg C.1 C.2.1 hd k) k
theorem gk_dcmp {a b : UInt64} {c : CmpOp} (hd : decode cc pc = .ok (.dcmp c, 1)) (k : gk_P w d y cc nL ret et x (pc + 1) L (.int (Op.cmpValue (FP.dcmp a b) c) :: st) h) : gk_P w d y cc nL ret et x pc L (.double b :: .double a :: st) h :=
  gk_step (st' := .int (Op.cmpValue (FP.dcmp a b) c) :: st) (fun n hL hs => gk_cn trivial ((gk_dr1 (gk_dr1 hs)))) (fun _ _ _ _ _ _ _ _ _ _ _ _ _ _ _ _ ad C hl k => lv_dcmp C.1 C.2.1 hd k) k
theorem gk_lcmp {a b : Int64} (hd : decode cc pc = .ok (.lcmp, 1)) (k : gk_P w d y cc nL ret et x (pc + 1) L (.int (lg_cmp a b) :: st) h) : gk_P w d y cc nL ret et x pc L (.long b :: .long a :: st) h :=
  gk_step (st' := .int (lg_cmp a b) :: st) (fun n hL hs => gk_cn trivial ((gk_dr1 (gk_dr1 hs)))) (fun _ _ _ _ _ _ _ _ _ _ _ _ _ _ _ _ ad C hl k => W.lcmp C.1 C.2.1 hd k) k
theorem gk_iload_n (k0 : Nat) {q : Fin 4} {v : Int32} (hd : decode cc pc = .ok (.iload_n q, 1)) (hl : L[k0]? = some ((q : Nat), .int v)) (k : gk_P w d y cc nL ret et x (pc + 1) L (.int v :: st) h) : gk_P w d y cc nL ret et x pc L st h :=
  gk_step (st' := .int v :: st) (fun n hL hs => gk_cn trivial hs) (fun _ _ _ _ _ _ _ _ _ _ _ _ _ _ _ _ ad C hh k => lv_iload_n C.1 C.2.1 hd rfl (lv_at hh k0 (by rw [List.getElem?_map, hl]; rfl)) k) k
theorem gk_iload (k0 : Nat) {q : Nat} {v : Int32} (hd : decode cc pc = .ok (.iload q, 2)) (hl : L[k0]? = some (q, .int v)) (k : gk_P w d y cc nL ret et x (pc + 2) L (.int v :: st) h) : gk_P w d y cc nL ret et x pc L st h :=
  gk_step (st' := .int v :: st) (fun n hL hs => gk_cn trivial hs) (fun _ _ _ _ _ _ _ _ _ _ _ _ _ _ _ _ ad C hh k => lv_iload C.1 C.2.1 hd (lv_at hh k0 (by rw [List.getElem?_map, hl]; rfl)) k) k
theorem gk_lload_n (k0 : Nat) {q : Fin 4} {v : Int64} (hd : decode cc pc = .ok (.lload_n q, 1)) (hl : L[k0]? = some ((q : Nat), .long v)) (k : gk_P w d y cc nL ret et x (pc + 1) L (.long v :: st) h) : gk_P w d y cc nL ret et x pc L st h :=
  gk_step (st' := .long v :: st) (fun n hL hs => gk_cn trivial hs) (fun _ _ _ _ _ _ _ _ _ _ _ _ _ _ _ _ ad C hh k => lv_lload_n C.1 C.2.1 hd rfl (lv_at hh k0 (by rw [List.getElem?_map, hl]; rfl)) k) k
theorem gk_lload (k0 : Nat) {q : Nat} {v : Int64} (hd : decode cc pc = .ok (.lload q, 2)) (hl : L[k0]? = some (q, .long v)) (k : gk_P w d y cc nL ret et x (pc + 2) L (.long v :: st) h) : gk_P w d y cc nL ret et x pc L st h :=
  gk_step (st' := .long v :: st) (fun n hL hs => gk_cn trivial hs) (fun _ _ _ _ _ _ _ _ _ _ _ _ _ _ _ _ ad C hh k => lv_lload C.1 C.2.1 hd (lv_at hh k0 (by rw [List.getElem?_map, hl]; rfl)) k) k
theorem gk_dload_n (k0 : Nat) {q : Fin 4} {v : UInt64} (hd : decode cc pc = .ok (.dload_n q, 1)) (hl : L[k0]? = some ((q : Nat), .double v)) (k : gk_P w d y cc nL ret et x (pc + 1) L (.double v :: st) h) : gk_P w d y cc nL ret et x pc L st h :=
  gk_step (st' := .double v :: st) (fun n hL hs => gk_cn trivial hs) (fun _ _ _ _ _ _ _ _ _ _ _ _ _ _ _ _ ad C hh k => lv_dload_n C.1 C.2.1 hd rfl (lv_at hh k0 (by rw [List.getElem?_map, hl]; rfl)) k) k
theorem gk_dload (k0 : Nat) {q : Nat} {v : UInt64} (hd : decode cc pc = .ok (.dload q, 2)) (hl : L[k0]? = some (q, .double v)) (k : gk_P w d y cc nL ret et x (pc + 2) L (.double v :: st) h) : gk_P w d y cc nL ret et x pc L st h :=
  gk_step (st' := .double v :: st) (fun n hL hs => gk_cn trivial hs) (fun _ _ _ _ _ _ _ _ _ _ _ _ _ _ _ _ ad C hh k => lv_dload C.1 C.2.1 hd (lv_at hh k0 (by rw [List.getElem?_map, hl]; rfl)) k) k
theorem gk_aload_n (k0 : Nat) {q : Fin 4} {v : Option Nat} (hd : decode cc pc = .ok (.aload_n q, 1)) (hl : L[k0]? = some ((q : Nat), va_rf v)) (k : gk_P w d y cc nL ret et x (pc + 1) L (va_rf v :: st) h) : gk_P w d y cc nL ret et x pc L st h :=
  gk_step (st' := va_rf v :: st) (fun n hL hs => gk_cn (hL _ (List.mem_of_getElem? hl)) hs) (fun _ _ _ _ _ _ _ _ _ _ _ _ _ _ _ _ ad C hh k => by
    cases v with
    | none => exact lv_aload_nN C.1 C.2.1 hd rfl (lv_at hh k0 (by rw [List.getElem?_map, hl]; rfl)) k
    | some a => exact lv_aload_n C.1 C.2.1 hd rfl (lv_at hh k0 (by rw [List.getElem?_map, hl]; rfl)) k) k
theorem gk_aload (k0 : Nat) {q : Nat} {v : Option Nat} (hd : decode cc pc = .ok (.aload q, 2)) (hl : L[k0]? = some (q, va_rf v)) (k : gk_P w d y cc nL ret et x (pc + 2) L (va_rf v :: st) h) : gk_P w d y cc nL ret et x pc L st h :=
  gk_step (st' := va_rf v :: st) (fun n hL hs => gk_cn (hL _ (List.mem_of_getElem? hl)) hs) (fun _ _ _ _ _ _ _ _ _ _ _ _ _ _ _ _ ad C hh k => by
    cases v with
    | none => exact lv_aloadN C.1 C.2.1 hd (lv_at hh k0 (by rw [List.getElem?_map, hl]; rfl)) k
    | some a => exact lv_aload C.1 C.2.1 hd (lv_at hh k0 (by rw [List.getElem?_map, hl]; rfl)) k) k
def gk_s1 (i : Nat) (v : Value) (L : List (Nat × Value)) : List (Nat × Value) := (i, v) :: L.filter (fun q => !(q.1 == i) && !(q.1 + 1 == i && q.2.category == 2))
def gk_s2 (i : Nat) (v : Value) (L : List (Nat × Value)) : List (Nat × Value) := (i, v) :: L.filter (fun q => !(q.1 == i) && (!(q.1 == i + 1) && !(q.1 + 1 == i && q.2.category == 2)))
theorem gk_s1_map (ad : Nat → Nat) (i : Nat) (v : Value) (L : List (Nat × Value)) : (i, gk_v ad v) :: (L.map fun q => (q.1, gk_v ad q.2)).filter (fun q => !(q.1 == i) && !(q.1 + 1 == i && q.2.category == 2)) = (gk_s1 i v L).map fun q => (q.1, gk_v ad q.2) := by
  rw [gk_s1, List.map_cons, List.filter_map]
  congr 2
  refine List.filter_congr fun q _ => ?_
  simp only [Function.comp, gk_v_cat]
theorem gk_s2_map (ad : Nat → Nat) (i : Nat) (v : Value) (L : List (Nat × Value)) : (i, gk_v ad v) :: (L.map fun q => (q.1, gk_v ad q.2)).filter (fun q => !(q.1 == i) && (!(q.1 == i + 1) && !(q.1 + 1 == i && q.2.category == 2))) = (gk_s2 i v L).map fun q => (q.1, gk_v ad q.2) := by
  rw [gk_s2, List.map_cons, List.filter_map]
  congr 2
  refine List.filter_congr fun q _ => ?_
  simp only [Function.comp, gk_v_cat]
theorem gk_s1_ok {n i : Nat} {v : Value} {L : List (Nat × Value)} (hv : gk_ok n v) (hL : ∀ q ∈ L, gk_ok n q.2) : ∀ q ∈ gk_s1 i v L, gk_ok n q.2 :=
  List.forall_mem_cons.mpr ⟨hv, fun q hq => hL q (List.mem_filter.mp hq).1⟩
theorem gk_s2_ok {n i : Nat} {v : Value} {L : List (Nat × Value)} (hv : gk_ok n v) (hL : ∀ q ∈ L, gk_ok n q.2) : ∀ q ∈ gk_s2 i v L, gk_ok n q.2 :=
  List.forall_mem_cons.mpr ⟨hv, fun q hq => hL q (List.mem_filter.mp hq).1⟩
/-- a step that names new locals -/
theorem gk_stepL {L' : List (Nat × Value)} {pc' : Nat} {st' : List Value} (hok : ∀ n, (∀ q ∈ L, gk_ok n q.2) → (∀ v ∈ st, gk_ok n v) → (∀ v ∈ st', gk_ok n v) ∧ ∀ q ∈ L', gk_ok n q.2)
    (hW : ∀ (p : Program) (l : Launch) (e : Env) (R : Room) (s : State) (m : MethodId) (args : Array Value) (below : List Frame) (meth : Method) (c : Code) (H : Heap) (locs : List Loc) (cells slots : Nat) (ls : Array Slot) (Q : State → Prop) (ad : Nat → Nat), gk_Cx p l R s m args meth c y cc nL ret et d → lv_has ls nL (L.map fun q => (q.1, gk_v ad q.2)) →
      (∀ ls' : Array Slot, lv_has ls' nL (L'.map fun q => (q.1, gk_v ad q.2)) → W p l e R s m args below meth c H locs cells slots Q (F0 m pc' ls' (st'.map (gk_v ad)))) → W p l e R s m args below meth c H locs cells slots Q (F0 m pc ls (st.map (gk_v ad))))
    (k : gk_P w d y cc nL ret et x pc' L' st' h) : gk_P w d y cc nL ret et x pc L st h := by
  intro r h' hx
  obtain ⟨k1, k2, k3⟩ := k r h' hx
  refine ⟨k1, k2, fun p l e R s m args below meth c H locs cells slots ls D ad B n0 u0 mc ms Qc XC C S r1 r2 r3 r4 E => ?_⟩
  obtain ⟨s1, s2, s3, s4, s5, s6, s7, s8, s9⟩ := S
  exact hW p l e R s m args below meth c H locs cells slots ls _ ad C s4 (fun ls' hl' => k3 p l e R s m args below meth c H locs cells slots ls' D ad B n0 u0 mc ms Qc XC C ⟨s1, s2, s3, hl', (hok _ s5 s6).2, (hok _ s5 s6).1, s7, s8, s9⟩ r1 r2 r3 r4 E)
theorem gk_istore_n {q : Fin 4} {v : Int32} {L' : List (Nat × Value)} (hd : decode cc pc = .ok (.istore_n q, 1)) (hn : (q : Nat) < nL) (hL' : gk_s1 q (.int v) L = L') (k : gk_P w d y cc nL ret et x (pc + 1) L' st h) : gk_P w d y cc nL ret et x pc L (.int v :: st) h :=
  gk_stepL (fun n hL hs => ⟨gk_dr1 hs, by rw [← hL']; exact gk_s1_ok trivial hL⟩) (fun _ _ _ _ _ _ _ _ _ _ _ _ _ _ _ _ ad C hh k => lv_istore_n C.1 C.2.1 hd rfl hh hn rfl (fun ls' hl' => k ls' (by rw [← hL', ← gk_s1_map ad]; exact hl'))) k
theorem gk_istore {q : Nat} {v : Int32} {L' : List (Nat × Value)} (hd : decode cc pc = .ok (.istore q, 2)) (hn : q < nL) (hL' : gk_s1 q (.int v) L = L') (k : gk_P w d y cc nL ret et x (pc + 2) L' st h) : gk_P w d y cc nL ret et x pc L (.int v :: st) h :=
  gk_stepL (fun n hL hs => ⟨gk_dr1 hs, by rw [← hL']; exact gk_s1_ok trivial hL⟩) (fun _ _ _ _ _ _ _ _ _ _ _ _ _ _ _ _ ad C hh k => lv_istore C.1 C.2.1 hd hh hn rfl (fun ls' hl' => k ls' (by rw [← hL', ← gk_s1_map ad]; exact hl'))) k
theorem gk_lstore_n {q : Fin 4} {v : Int64} {L' : List (Nat × Value)} (hd : decode cc pc = .ok (.lstore_n q, 1)) (hn : (q : Nat) + 1 < nL) (hL' : gk_s2 q (.long v) L = L') (k : gk_P w d y cc nL ret et x (pc + 1) L' st h) : gk_P w d y cc nL ret et x pc L (.long v :: st) h :=
  gk_stepL (fun n hL hs => ⟨gk_dr1 hs, by rw [← hL']; exact gk_s2_ok trivial hL⟩) (fun _ _ _ _ _ _ _ _ _ _ _ _ _ _ _ _ ad C hh k => lv_lstore_n C.1 C.2.1 hd rfl hh hn rfl (fun ls' hl' => k ls' (by rw [← hL', ← gk_s2_map ad]; exact hl'))) k
theorem gk_lstore {q : Nat} {v : Int64} {L' : List (Nat × Value)} (hd : decode cc pc = .ok (.lstore q, 2)) (hn : q + 1 < nL) (hL' : gk_s2 q (.long v) L = L') (k : gk_P w d y cc nL ret et x (pc + 2) L' st h) : gk_P w d y cc nL ret et x pc L (.long v :: st) h :=
  gk_stepL (fun n hL hs => ⟨gk_dr1 hs, by rw [← hL']; exact gk_s2_ok trivial hL⟩) (fun _ _ _ _ _ _ _ _ _ _ _ _ _ _ _ _ ad C hh k => lv_lstore C.1 C.2.1 hd hh hn rfl (fun ls' hl' => k ls' (by rw [← hL', ← gk_s2_map ad]; exact hl'))) k
theorem gk_dstore_n {q : Fin 4} {v : UInt64} {L' : List (Nat × Value)} (hd : decode cc pc = .ok (.dstore_n q, 1)) (hn : (q : Nat) + 1 < nL) (hL' : gk_s2 q (.double v) L = L') (k : gk_P w d y cc nL ret et x (pc + 1) L' st h) : gk_P w d y cc nL ret et x pc L (.double v :: st) h :=
  gk_stepL (fun n hL hs => ⟨gk_dr1 hs, by rw [← hL']; exact gk_s2_ok trivial hL⟩) (fun _ _ _ _ _ _ _ _ _ _ _ _ _ _ _ _ ad C hh k => lv_dstore_n C.1 C.2.1 hd rfl hh hn rfl (fun ls' hl' => k ls' (by rw [← hL', ← gk_s2_map ad]; exact hl'))) k
theorem gk_dstore {q : Nat} {v : UInt64} {L' : List (Nat × Value)} (hd : decode cc pc = .ok (.dstore q, 2)) (hn : q + 1 < nL) (hL' : gk_s2 q (.double v) L = L') (k : gk_P w d y cc nL ret et x (pc + 2) L' st h) : gk_P w d y cc nL ret et x pc L (.double v :: st) h :=
  gk_stepL (fun n hL hs => ⟨gk_dr1 hs, by rw [← hL']; exact gk_s2_ok trivial hL⟩) (fun _ _ _ _ _ _ _ _ _ _ _ _ _ _ _ _ ad C hh k => lv_dstore C.1 C.2.1 hd hh hn rfl (fun ls' hl' => k ls' (by rw [← hL', ← gk_s2_map ad]; exact hl'))) k
theorem gk_astore_n {q : Fin 4} {v : Option Nat} {L' : List (Nat × Value)} (hd : decode cc pc = .ok (.astore_n q, 1)) (hn : (q : Nat) < nL) (hL' : gk_s1 q (va_rf v) L = L') (k : gk_P w d y cc nL ret et x (pc + 1) L' st h) : gk_P w d y cc nL ret et x pc L (va_rf v :: st) h :=
  gk_stepL (fun n hL hs => ⟨gk_dr1 hs, by rw [← hL']; exact gk_s1_ok (gk_hd hs) hL⟩) (fun _ _ _ _ _ _ _ _ _ _ _ _ _ _ _ _ ad C hh k => by
    cases v with
    | none => exact lv_astore_nN C.1 C.2.1 hd rfl hh hn rfl (fun ls' hl' => k ls' (by rw [← hL', ← gk_s1_map ad]; exact hl'))
    | some a => exact lv_astore_n C.1 C.2.1 hd rfl hh hn rfl (fun ls' hl' => k ls' (by rw [← hL', ← gk_s1_map ad]; exact hl'))) k
theorem gk_astore {q : Nat} {v : Option Nat} {L' : List (Nat × Value)} (hd : decode cc pc = .ok (.astore q, 2)) (hn : (q : Nat) < nL) (hL' : gk_s1 q (va_rf v) L = L') (k : gk_P w d y cc nL ret et x (pc + 2) L' st h) : gk_P w d y cc nL ret et x pc L (va_rf v :: st) h :=
  gk_stepL (fun n hL hs => ⟨gk_dr1 hs, by rw [← hL']; exact gk_s1_ok (gk_hd hs) hL⟩) (fun _ _ _ _ _ _ _ _ _ _ _ _ _ _ _ _ ad C hh k => by
    cases v with
    | none => exact lv_astoreN C.1 C.2.1 hd hh hn rfl (fun ls' hl' => k ls' (by rw [← hL', ← gk_s1_map ad]; exact hl'))
    | some a => exact lv_astore C.1 C.2.1 hd hh hn rfl (fun ls' hl' => k ls' (by rw [← hL', ← gk_s1_map ad]; exact hl'))) k
theorem gk_iinc (k0 : Nat) {q : Nat} {i : Int} {v : Int32} (u : Int32) {L' : List (Nat × Value)} (hd : decode cc pc = .ok (.iinc q i, 3)) (hl : L[k0]? = some (q, .int v)) (hv : v + Int32.ofInt i = u) (hn : q < nL) (hL' : gk_s1 q (.int u) L = L') (k : gk_P w d y cc nL ret et x (pc + 3) L' st h) : gk_P w d y cc nL ret et x pc L st h :=
  gk_stepL (fun n hL hs => ⟨hs, by rw [← hL']; exact gk_s1_ok trivial hL⟩) (fun _ _ _ _ _ _ _ _ _ _ _ _ _ _ _ _ ad C hh k => lv_iinc C.1 C.2.1 hd hh (k := k0) (by rw [List.getElem?_map, hl]; rfl) hv hn rfl (fun ls' hl' => k ls' (by rw [← hL', ← gk_s1_map ad]; exact hl'))) k
theorem gk_dup {a : Value} (hd : decode cc pc = .ok (.dup, 1)) (ha : a.category = 1) (k : gk_P w d y cc nL ret et x (pc + 1) L (a :: a :: st) h) : gk_P w d y cc nL ret et x pc L (a :: st) h :=
  gk_step (fun n hL hs => gk_cn (gk_hd hs) hs) (fun _ _ _ _ _ _ _ _ _ _ _ _ _ _ _ _ ad C hl k => lv_dup C.1 C.2.1 hd ((gk_v_cat ad a).trans ha) k) k
theorem gk_pop {a : Value} (hd : decode cc pc = .ok (.pop, 1)) (ha : a.category = 1) (k : gk_P w d y cc nL ret et x (pc + 1) L st h) : gk_P w d y cc nL ret et x pc L (a :: st) h :=
  gk_step (fun n hL hs => gk_dr1 hs) (fun _ _ _ _ _ _ _ _ _ _ _ _ _ _ _ _ ad C hl k => lv_pop C.1 C.2.1 hd ((gk_v_cat ad a).trans ha) k) k
theorem gk_dup_x1 {a b : Value} (hd : decode cc pc = .ok (.dup_x1, 1)) (ha : a.category = 1) (hb : b.category = 1) (k : gk_P w d y cc nL ret et x (pc + 1) L (a :: b :: a :: st) h) : gk_P w d y cc nL ret et x pc L (a :: b :: st) h :=
  gk_step (fun n hL hs => gk_cn (gk_hd hs) (gk_cn (gk_hd (gk_dr1 hs)) (gk_cn (gk_hd hs) (gk_dr1 (gk_dr1 hs))))) (fun _ _ _ _ _ _ _ _ _ _ _ _ _ _ _ _ ad C hl k => lv_dup_x1 C.1 C.2.1 hd ((gk_v_cat ad a).trans ha) ((gk_v_cat ad b).trans hb) k) k
theorem gk_dup2 {a b : Value} (hd : decode cc pc = .ok (.dup2, 1)) (ha : a.category = 1) (hb : b.category = 1) (k : gk_P w d y cc nL ret et x (pc + 1) L (a :: b :: a :: b :: st) h) : gk_P w d y cc nL ret et x pc L (a :: b :: st) h :=
  gk_step (fun n hL hs => gk_cn (gk_hd hs) (gk_cn (gk_hd (gk_dr1 hs)) hs)) (fun _ _ _ _ _ _ _ _ _ _ _ _ _ _ _ _ ad C hl k => lv_dup2_11 C.1 C.2.1 hd ((gk_v_cat ad a).trans ha) ((gk_v_cat ad b).trans hb) k) k
/-- a step to one of two places -/
theorem gk_step2 {st' : List Value} {c : Prop} {ic : Decidable c} {xa xb : Option (ρ × gk_H)} {pa pb : Nat} (hok : ∀ n, (∀ v ∈ st, gk_ok n v) → ∀ v ∈ st', gk_ok n v)
    (hW : ∀ (p : Program) (l : Launch) (e : Env) (R : Room) (s : State) (m : MethodId) (args : Array Value) (below : List Frame) (meth : Method) (cd : Code) (H : Heap) (locs : List Loc) (cells slots : Nat) (ls : Array Slot) (Q : State → Prop) (ad : Nat → Nat), gk_Cx p l R s m args meth cd y cc nL ret et d →
      (c → W p l e R s m args below meth cd H locs cells slots Q (F0 m pa ls (st'.map (gk_v ad)))) → (¬ c → W p l e R s m args below meth cd H locs cells slots Q (F0 m pb ls (st'.map (gk_v ad)))) → W p l e R s m args below meth cd H locs cells slots Q (F0 m pc ls (st.map (gk_v ad))))
    (ka : c → gk_P w d y cc nL ret et xa pa L st' h) (kb : ¬ c → gk_P w d y cc nL ret et xb pb L st' h) : gk_P w d y cc nL ret et (if c then xa else xb) pc L st h := by
  by_cases hc : c
  · rw [if_pos hc]
    exact gk_step (fun n _ hs => hok n hs) (fun p l e R s m args below meth cd H locs cells slots ls Q ad C _ k => hW p l e R s m args below meth cd H locs cells slots ls Q ad C (fun _ => k) (fun z => absurd hc z)) (ka hc)
  · rw [if_neg hc]
    exact gk_step (fun n _ hs => hok n hs) (fun p l e R s m args below meth cd H locs cells slots ls Q ad C _ k => hW p l e R s m args below meth cd H locs cells slots ls Q ad C (fun z => absurd z hc) (fun _ => k)) (kb hc)
theorem gk_if_eq {a : Int32} {off : Int} (tgt : Nat) {xa xb : Option (ρ × gk_H)} (hd : decode cc pc = .ok (.ifCond .eq off, 3)) (ht : (pc : Int) + off = (tgt : Int)) (ka : a = 0 → gk_P w d y cc nL ret et xa tgt L st h) (kb : ¬ a = 0 → gk_P w d y cc nL ret et xb (pc + 3) L st h) : gk_P w d y cc nL ret et (if a = 0 then xa else xb) pc L (.int a :: st) h :=
  gk_step2 (fun n hs => gk_dr1 hs) (fun _ _ _ _ _ _ _ _ _ _ _ _ _ _ _ _ ad C k1 k2 => lv_if_eq C.1 C.2.1 hd ht k1 k2) ka kb
theorem gk_if_lt {a : Int32} {off : Int} (tgt : Nat) {xa xb : Option (ρ × gk_H)} (hd : decode cc pc = .ok (.ifCond .lt off, 3)) (ht : (pc : Int) + off = (tgt : Int)) (ka : a < 0 → gk_P w d y cc nL ret et xa tgt L st h) (kb : ¬ a < 0 → gk_P w d y cc nL ret et xb (pc + 3) L st h) : gk_P w d y cc nL ret et (if a < 0 then xa else xb) pc L (.int a :: st) h :=
  gk_step2 (fun n hs => gk_dr1 hs) (fun _ _ _ _ _ _ _ _ _ _ _ _ _ _ _ _ ad C k1 k2 => lv_if_lt C.1 C.2.1 hd ht k1 k2) ka kb
theorem gk_if_ge {a : Int32} {off : Int} (tgt : Nat) {xa xb : Option (ρ × gk_H)} (hd : decode cc pc = .ok (.ifCond .ge off, 3)) (ht : (pc : Int) + off = (tgt : Int)) (ka : 0 ≤ a → gk_P w d y cc nL ret et xa tgt L st h) (kb : ¬ 0 ≤ a → gk_P w d y cc nL ret et xb (pc + 3) L st h) : gk_P w d y cc nL ret et (if 0 ≤ a then xa else xb) pc L (.int a :: st) h :=
  gk_step2 (fun n hs => gk_dr1 hs) (fun _ _ _ _ _ _ _ _ _ _ _ _ _ _ _ _ ad C k1 k2 => lv_if_ge C.1 C.2.1 hd ht k1 k2) ka kb
theorem gk_if_gt {a : Int32} {off : Int} (tgt : Nat) {xa xb : Option (ρ × gk_H)} (hd : decode cc pc = .ok (.ifCond .gt off, 3)) (ht : (pc : Int) + off = (tgt : Int)) (ka : 0 < a → gk_P w d y cc nL ret et xa tgt L st h) (kb : ¬ 0 < a → gk_P w d y cc nL ret et xb (pc + 3) L st h) : gk_P w d y cc nL ret et (if 0 < a then xa else xb) pc L (.int a :: st) h :=
  gk_step2 (fun n hs => gk_dr1 hs) (fun _ _ _ _ _ _ _ _ _ _ _ _ _ _ _ _ ad C k1 k2 => lv_if_gt C.1 C.2.1 hd ht k1 k2) ka kb
theorem gk_if_le {a : Int32} {off : Int} (tgt : Nat) {xa xb : Option (ρ × gk_H)} (hd : decode cc pc = .ok (.ifCond .le off, 3)) (ht : (pc : Int) + off = (tgt : Int)) (ka : a ≤ 0 → gk_P w d y cc nL ret et xa tgt L st h) (kb : ¬ a ≤ 0 → gk_P w d y cc nL ret et xb (pc + 3) L st h) : gk_P w d y cc nL ret et (if a ≤ 0 then xa else xb) pc L (.int a :: st) h :=
  gk_step2 (fun n hs => gk_dr1 hs) (fun _ _ _ _ _ _ _ _ _ _ _ _ _ _ _ _ ad C k1 k2 => lv_if_le C.1 C.2.1 hd ht k1 k2) ka kb
theorem gk_icmp_eq {a b : Int32} {off : Int} (tgt : Nat) {xa xb : Option (ρ × gk_H)} (hd : decode cc pc = .ok (.if_icmp .eq off, 3)) (ht : (pc : Int) + off = (tgt : Int)) (ka : a = b → gk_P w d y cc nL ret et xa tgt L st h) (kb : ¬ a = b → gk_P w d y cc nL ret et xb (pc + 3) L st h) : gk_P w d y cc nL ret et (if a = b then xa else xb) pc L (.int b :: .int a :: st) h :=
  gk_step2 (fun n hs => gk_dr1 (gk_dr1 hs)) (fun _ _ _ _ _ _ _ _ _ _ _ _ _ _ _ _ ad C k1 k2 => lv_icmp_eq C.1 C.2.1 hd ht k1 k2) ka kb
theorem gk_icmp_lt {a b : Int32} {off : Int} (tgt : Nat) {xa xb : Option (ρ × gk_H)} (hd : decode cc pc = .ok (.if_icmp .lt off, 3)) (ht : (pc : Int) + off = (tgt : Int)) (ka : a < b → gk_P w d y cc nL ret et xa tgt L st h) (kb : ¬ a < b → gk_P w d y cc nL ret et xb (pc + 3) L st h) : gk_P w d y cc nL ret et (if a < b then xa else xb) pc L (.int b :: .int a :: st) h :=
  gk_step2 (fun n hs => gk_dr1 (gk_dr1 hs)) (fun _ _ _ _ _ _ _ _ _ _ _ _ _ _ _ _ ad C k1 k2 => lv_icmp_lt C.1 C.2.1 hd ht k1 k2) ka kb
theorem gk_icmp_ge {a b : Int32} {off : Int} (tgt : Nat) {xa xb : Option (ρ × gk_H)} (hd : decode cc pc = .ok (.if_icmp .ge off, 3)) (ht : (pc : Int) + off = (tgt : Int)) (ka : b ≤ a → gk_P w d y cc nL ret et xa tgt L st h) (kb : ¬ b ≤ a → gk_P w d y cc nL ret et xb (pc + 3) L st h) : gk_P w d y cc nL ret et (if b ≤ a then xa else xb) pc L (.int b :: .int a :: st) h :=
  gk_step2 (fun n hs => gk_dr1 (gk_dr1 hs)) (fun _ _ _ _ _ _ _ _ _ _ _ _ _ _ _ _ ad C k1 k2 => lv_icmp_ge C.1 C.2.1 hd ht k1 k2) ka kb
theorem gk_icmp_gt {a b : Int32} {off : Int} (tgt : Nat) {xa xb : Option (ρ × gk_H)} (hd : decode cc pc = .ok (.if_icmp .gt off, 3)) (ht : (pc : Int) + off = (tgt : Int)) (ka : b < a → gk_P w d y cc nL ret et xa tgt L st h) (kb : ¬ b < a → gk_P w d y cc nL ret et xb (pc + 3) L st h) : gk_P w d y cc nL ret et (if b < a then xa else xb) pc L (.int b :: .int a :: st) h :=
  gk_step2 (fun n hs => gk_dr1 (gk_dr1 hs)) (fun _ _ _ _ _ _ _ _ _ _ _ _ _ _ _ _ ad C k1 k2 => lv_icmp_gt C.1 C.2.1 hd ht k1 k2) ka kb
theorem gk_icmp_le {a b : Int32} {off : Int} (tgt : Nat) {xa xb : Option (ρ × gk_H)} (hd : decode cc pc = .ok (.if_icmp .le off, 3)) (ht : (pc : Int) + off = (tgt : Int)) (ka : a ≤ b → gk_P w d y cc nL ret et xa tgt L st h) (kb : ¬ a ≤ b → gk_P w d y cc nL ret et xb (pc + 3) L st h) : gk_P w d y cc nL ret et (if a ≤ b then xa else xb) pc L (.int b :: .int a :: st) h :=
  gk_step2 (fun n hs => gk_dr1 (gk_dr1 hs)) (fun _ _ _ _ _ _ _ _ _ _ _ _ _ _ _ _ ad C k1 k2 => lv_icmp_le C.1 C.2.1 hd ht k1 k2) ka kb
theorem gk_if_ne {a : Int32} {off : Int} (tgt : Nat) {xa xb : Option (ρ × gk_H)} (hd : decode cc pc = .ok (.ifCond .ne off, 3)) (ht : (pc : Int) + off = (tgt : Int)) (kb : a = 0 → gk_P w d y cc nL ret et xb (pc + 3) L st h) (ka : ¬ a = 0 → gk_P w d y cc nL ret et xa tgt L st h) : gk_P w d y cc nL ret et (if a = 0 then xb else xa) pc L (.int a :: st) h :=
  gk_step2 (fun n hs => gk_dr1 hs) (fun _ _ _ _ _ _ _ _ _ _ _ _ _ _ _ _ ad C k1 k2 => lv_if_ne C.1 C.2.1 hd ht k2 k1) kb ka
theorem gk_icmp_ne {a b : Int32} {off : Int} (tgt : Nat) {xa xb : Option (ρ × gk_H)} (hd : decode cc pc = .ok (.if_icmp .ne off, 3)) (ht : (pc : Int) + off = (tgt : Int)) (kb : a = b → gk_P w d y cc nL ret et xb (pc + 3) L st h) (ka : ¬ a = b → gk_P w d y cc nL ret et xa tgt L st h) : gk_P w d y cc nL ret et (if a = b then xb else xa) pc L (.int b :: .int a :: st) h :=
  gk_step2 (fun n hs => gk_dr1 (gk_dr1 hs)) (fun _ _ _ _ _ _ _ _ _ _ _ _ _ _ _ _ ad C k1 k2 => lv_icmp_ne C.1 C.2.1 hd ht k2 k1) kb ka
theorem gk_goto {off : Int} (tgt : Nat) (hd : decode cc pc = .ok (.goto off, 3)) (ht : (pc : Int) + off = (tgt : Int)) (k : gk_P w d y cc nL ret et x tgt L st h) : gk_P w d y cc nL ret et x pc L st h :=
  gk_step (fun n hL hs => hs) (fun _ _ _ _ _ _ _ _ _ _ _ _ _ _ _ _ ad C hl k => lv_goto C.1 C.2.1 hd ht k) k
theorem gk_ifnull {a : Option Nat} {off : Int} (tgt : Nat) {xa xb : Option (ρ × gk_H)} (hd : decode cc pc = .ok (.ifnull off, 3)) (ht : (pc : Int) + off = (tgt : Int)) (ka : a = none → gk_P w d y cc nL ret et xa tgt L st h) (kb : ¬ a = none → gk_P w d y cc nL ret et xb (pc + 3) L st h) : gk_P w d y cc nL ret et (if a = none then xa else xb) pc L (va_rf a :: st) h :=
  gk_step2 (fun n hs => gk_dr1 hs) (fun _ _ _ _ _ _ _ _ _ _ _ _ _ _ _ _ ad C k1 k2 => by
    cases a with
    | none => exact lv_ifnullN C.1 C.2.1 hd ht (k1 rfl)
    | some a => exact lv_ifnull C.1 C.2.1 hd (k2 (fun z => by cases z))) ka kb
theorem gk_ifnonnull {a : Option Nat} {off : Int} (tgt : Nat) {xa xb : Option (ρ × gk_H)} (hd : decode cc pc = .ok (.ifnonnull off, 3)) (ht : (pc : Int) + off = (tgt : Int)) (ka : a ≠ none → gk_P w d y cc nL ret et xa tgt L st h) (kb : ¬ a ≠ none → gk_P w d y cc nL ret et xb (pc + 3) L st h) : gk_P w d y cc nL ret et (if a ≠ none then xa else xb) pc L (va_rf a :: st) h :=
  gk_step2 (fun n hs => gk_dr1 hs) (fun _ _ _ _ _ _ _ _ _ _ _ _ _ _ _ _ ad C k1 k2 => by
    cases a with
    | none => exact lv_ifnonnullN C.1 C.2.1 hd (k2 (fun z => z rfl))
    | some a => exact lv_ifnonnull C.1 C.2.1 hd ht (k1 (fun z => by cases z))) ka kb
theorem gk_tsw_out {a : Int32} {dflt lo hi : Int} {offs : Array Int} {len : Nat} (tgt : Nat) (hd : decode cc pc = .ok (.tableswitch dflt lo hi offs, len)) (ha : a.toInt < lo ∨ hi < a.toInt) (ht : (pc : Int) + dflt = (tgt : Int)) (k : gk_P w d y cc nL ret et x tgt L st h) : gk_P w d y cc nL ret et x pc L (.int a :: st) h :=
  gk_step (fun n hL hs => gk_dr1 hs) (fun _ _ _ _ _ _ _ _ _ _ _ _ _ _ _ _ ad C hl k => lv_tableOut C.1 C.2.1 hd ha ht k) k
theorem gk_tsw_in {a : Int32} {dflt lo hi off : Int} {offs : Array Int} {len : Nat} (v : Int32) (tgt : Nat) (hd : decode cc pc = .ok (.tableswitch dflt lo hi offs, len)) (ha : a = v) (h1 : ¬ v.toInt < lo) (h2 : ¬ hi < v.toInt) (ho : offs[(v.toInt - lo).toNat]? = some off) (ht : (pc : Int) + off = (tgt : Int)) (k : gk_P w d y cc nL ret et x tgt L st h) : gk_P w d y cc nL ret et x pc L (.int a :: st) h :=
  gk_step (fun n hL hs => gk_dr1 hs) (fun _ _ _ _ _ _ _ _ _ _ _ _ _ _ _ _ ad C hl k => lv_tableIn C.1 C.2.1 hd (by rw [ha]; exact h1) (by rw [ha]; exact h2) (by rw [ha]; exact ho) ht k) k
theorem gk_lsw {a : Int32} {dflt off : Int} {ps : Array (Int × Int)} {len : Nat} (tgt : Nat) (hd : decode cc pc = .ok (.lookupswitch dflt ps, len)) (hp : (ps.toList.zip (ps.toList.drop 1)).all (fun (a, next) => a.1 < next.1) = true) (ho : Op.lookupswitch.offset ps.toList dflt a.toInt = off) (ht : (pc : Int) + off = (tgt : Int)) (k : gk_P w d y cc nL ret et x tgt L st h) : gk_P w d y cc nL ret et x pc L (.int a :: st) h :=
  gk_step (fun n hL hs => gk_dr1 hs) (fun _ _ _ _ _ _ _ _ _ _ _ _ _ _ _ _ ad C hl k => lv_lookup C.1 C.2.1 hd hp ho ht k) k
end GKROWS
