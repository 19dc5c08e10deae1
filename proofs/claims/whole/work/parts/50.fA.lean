/-! GENERATED: functions -/
def f_Va_init (a0 : Option Nat) (a1 : Int32) (a2 : Int32) (a3 : UInt64) (a4 : Option Nat) (a5 : Int32) (a6 : Int32) (a7 : Option Nat) (h : gk_H) : Option (Unit × gk_H) :=
a0.bind fun _ =>
(gk_set h a0 2 0 (.int a1)).bind fun h1 =>
(gk_set h1 a0 2 1 (.int a2)).bind fun h2 =>
(gk_set h2 a0 2 2 (.double a3)).bind fun h3 =>
(gk_set h3 a0 2 3 (va_rf a4)).bind fun h4 =>
(gk_set h4 a0 2 4 (.int a5)).bind fun h5 =>
(gk_set h5 a0 2 5 (.int a6)).bind fun h6 =>
(gk_set h6 a0 2 6 (va_rf a7)).bind fun h7 =>
some ((), h7)
def f_Va_ofNothing  (h : gk_H) : Option ((Option Nat) × gk_H) :=
gk_nw h 2 7 fun x1 h1 =>
gk_cv h1 x1 2 (f_Va_init x1 (0 : Int32) (0 : Int32) (0x0000000000000000) (some 4) (1 : Int32) (1 : Int32) none h1) fun _ h2 =>
some (x1, h2)
def f_Va_ofError (a0 : Int32) (h : gk_H) : Option ((Option Nat) × gk_H) :=
gk_nw h 2 7 fun x1 h1 =>
gk_cv h1 x1 2 (f_Va_init x1 (4 : Int32) a0 (0x0000000000000000) (some 4) (1 : Int32) (1 : Int32) none h1) fun _ h2 =>
some (x1, h2)
def f_Li_init (a0 : Option Nat) (h : gk_H) : Option (Unit × gk_H) :=
a0.bind fun _ =>
gk_na h 1 (255 : Int32) fun x1 h1 =>
(gk_set h1 a0 3 0 (va_rf x1)).bind fun h2 =>
gk_na h2 5 (255 : Int32) fun x2 h3 =>
(gk_set h3 a0 3 2 (va_rf x2)).bind fun h4 =>
gk_na h4 4 (256 : Int32) fun x3 h5 =>
(gk_set h5 a0 3 3 (va_rf x3)).bind fun h6 =>
some ((), h6)
def f_Ar_init (a0 : Option Nat) (h : gk_H) : Option (Unit × gk_H) :=
a0.bind fun _ =>
gk_na h 7 (8 : Int32) fun x1 h1 =>
(gk_set h1 a0 4 0 (va_rf x1)).bind fun h2 =>
gk_na h2 7 (8 : Int32) fun x2 h3 =>
(gk_set h3 a0 4 1 (va_rf x2)).bind fun h4 =>
gk_na h4 6 (128 : Int32) fun x3 h5 =>
(gk_set h5 a0 4 4 (va_rf x3)).bind fun h6 =>
gk_ca (f_Va_ofNothing  h6) fun x4 h7 =>
(gk_set h7 a0 4 6 (va_rf x4)).bind fun h8 =>
gk_ca (f_Va_ofError (3 : Int32) h8) fun x5 h9 =>
(gk_set h9 a0 4 7 (va_rf x5)).bind fun h10 =>
gk_nw h10 3 4 fun x6 h11 =>
gk_cv h11 x6 3 (f_Li_init x6 h11) fun _ h12 =>
(gk_set h12 a0 4 8 (va_rf x6)).bind fun h13 =>
some ((), h13)
def f_A_init (a0 : Option Nat) (h : gk_H) : Option (Unit × gk_H) :=
a0.bind fun _ =>
gk_na h 7 (16 : Int32) fun x1 h1 =>
(gk_set h1 a0 5 0 (va_rf x1)).bind fun h2 =>
gk_nw h2 1 4 fun x2 h3 =>
gk_cv h3 x2 1 (f_SB_init x2 h3) fun _ h4 =>
(gk_set h4 a0 5 2 (va_rf x2)).bind fun h5 =>
gk_nw h5 4 9 fun x3 h6 =>
gk_cv h6 x3 4 (f_Ar_init x3 h6) fun _ h7 =>
(gk_set h7 a0 5 3 (va_rf x3)).bind fun h8 =>
(gk_set h8 a0 5 1 (.int (0 : Int32))).bind fun h9 =>
some ((), h9)
def f_A_size (a0 : Option Nat) (h : gk_H) : Option (Int32 × gk_H) :=
((gk_get h a0 5 1).bind gk_asI).bind fun x1 =>
some (x1, h)
def f_Va_isFinite_b21  (s0 : Int32) (h : gk_H) : Option (Int32 × gk_H) :=
if narrow .boolean (.int s0) = .int s0 then some (s0, h) else none
def f_Va_isFinite_b20   (h : gk_H) : Option (Int32 × gk_H) :=
f_Va_isFinite_b21 (0 : Int32) h
def f_Va_isFinite (a0 : UInt64) (h : gk_H) : Option (Int32 × gk_H) :=
if (Op.cmpValue (FP.dcmp a0 (0xffefffffffffffff)) .l) < 0 then
(f_Va_isFinite_b20 h)
else
(if 0 < (Op.cmpValue (FP.dcmp a0 (0x7fefffffffffffff)) .g) then
(f_Va_isFinite_b20 h)
else
(f_Va_isFinite_b21 (1 : Int32) h))
def f_Va_ofNumber_b41  (s0 : Option Nat) (s1 : Option Nat) (s2 : Int32) (s3 : Int32) (s4 : UInt64) (h : gk_H) : Option ((Option Nat) × gk_H) :=
gk_cv h s1 2 (f_Va_init s1 s2 s3 s4 (some 4) (1 : Int32) (1 : Int32) none h) fun _ h1 =>
some (s0, h1)
def f_Va_ofNumber (a0 : UInt64) (h : gk_H) : Option ((Option Nat) × gk_H) :=
gk_ca (f_Va_isFinite a0 h) fun x1 h1 =>
if x1 = 0 then
(gk_nw h1 2 7 fun x2 h2 =>
gk_cv h2 x2 2 (f_Va_init x2 (4 : Int32) (6 : Int32) (0x0000000000000000) (some 4) (1 : Int32) (1 : Int32) none h2) fun _ h3 =>
some (x2, h3))
else
(gk_nw h1 2 7 fun x3 h4 =>
if (Op.cmpValue (FP.dcmp a0 (0x0000000000000000)) .l) = 0 then
(f_Va_ofNumber_b41 x3 x3 (1 : Int32) (0 : Int32) (0x0000000000000000) h4)
else
(f_Va_ofNumber_b41 x3 x3 (1 : Int32) (0 : Int32) a0 h4))
def f_A_push (a0 : Option Nat) (a1 : Option Nat) (h : gk_H) : Option ((Sum (Unit) String) × gk_H) :=
((gk_get h a0 5 1).bind gk_asI).bind fun x1 =>
if x1 < (16 : Int32) then
(((gk_get h a0 5 0).bind gk_asR).bind fun x2 =>
((gk_get h a0 5 1).bind gk_asI).bind fun x3 =>
(gk_ast h x2 7 x3 (va_rf a1)).bind fun h1 =>
((gk_get h1 a0 5 1).bind gk_asI).bind fun x4 =>
(gk_set h1 a0 5 1 (.int (x4 + (1 : Int32)))).bind fun h2 =>
some (.inl (), h2))
else
(some (.inr "java/lang/IllegalStateException", gk_thrown h))
def f_A_number (a0 : Option Nat) (a1 : UInt64) (h : gk_H) : Option ((Sum (Unit) String) × gk_H) :=
gk_ca (f_Va_ofNumber a1 h) fun x1 h1 =>
gk_cx h1 a0 5 (f_A_push a0 x1 h1) (fun _ h2 =>
some (.inl (), h2)) Sum.inr
def f_A_type_b113 (b84 : Option Nat → Int32 → Int32 → gk_H → Option ((Sum (Int32) String) × gk_H)) (v0 : Option Nat) (v1 : Int32) (v3 : Int32) (h : gk_H) : Option ((Sum (Int32) String) × gk_H) :=
gk_let (v3 + (-8 : Int32)) fun x1 =>
b84 v0 v1 x1 h
def f_A_type_b84  : Nat → Option Nat → Int32 → Int32 → gk_H → Option ((Sum (Int32) String) × gk_H)
  | 0 => fun _ _ _ _ => none
  | fu + 1 => fun v0 v1 v3 h =>
if v3 < 0 then
(((gk_get h v0 5 2).bind gk_asR).bind fun x1 =>
gk_cv h x1 1 (f_SB_length x1 h) fun x2 h1 =>
some (.inl x2, h1))
else
(gk_let ((Int32.toUInt32 v1 >>> (Int32.toUInt32 v3 &&& Int32.toUInt32 31)).toInt32 &&& (255 : Int32)) fun x3 =>
if x3 = 0 then
(f_A_type_b113 (f_A_type_b84 fu) v0 v1 v3 h)
else
(((gk_get h v0 5 2).bind gk_asR).bind fun x4 =>
gk_cv h x4 1 (f_SB_append_C x4 (UInt32.toInt32 (Int32.toUInt32 x3 % 65536)) h) fun x5 h2 =>
f_A_type_b113 (f_A_type_b84 fu) v0 v1 v3 h2))
def f_A_type_b50 (b5 : Option Nat → Int32 → Int32 → Int32 → gk_H → Option ((Sum (Int32) String) × gk_H)) (v0 : Option Nat) (v1 : Int32) (v2 : Int32) (v3 : Int32) (h : gk_H) : Option ((Sum (Int32) String) × gk_H) :=
gk_let (v3 + (-8 : Int32)) fun x1 =>
b5 v0 v1 v2 x1 h
def f_A_type_b37   (h : gk_H) : Option ((Sum (Int32) String) × gk_H) :=
some (.inr "java/lang/IllegalArgumentException", gk_thrown h)
def f_A_type_b5  : Nat → Option Nat → Int32 → Int32 → Int32 → gk_H → Option ((Sum (Int32) String) × gk_H)
  | 0 => fun _ _ _ _ _ => none
  | fu + 1 => fun v0 v1 v2 v3 h =>
if v3 < 0 then
(((gk_get h v0 5 2).bind gk_asR).bind fun x1 =>
gk_cv h x1 1 (f_SB_length x1 h) fun x2 h1 =>
if (x2 + v2) ≤ (255 : Int32) then
(f_A_type_b84 gk_F v0 v1 (24 : Int32) h1)
else
(some (.inr "java/lang/IllegalStateException", gk_thrown h1)))
else
(gk_let ((Int32.toUInt32 v1 >>> (Int32.toUInt32 v3 &&& Int32.toUInt32 31)).toInt32 &&& (255 : Int32)) fun x3 =>
if x3 = 0 then
(f_A_type_b50 (f_A_type_b5 fu) v0 v1 v2 v3 h)
else
(if x3 < (32 : Int32) then
(f_A_type_b37 h)
else
(if x3 ≤ (126 : Int32) then
(gk_let (v2 + (1 : Int32)) fun x4 =>
f_A_type_b50 (f_A_type_b5 fu) v0 v1 x4 v3 h)
else
(f_A_type_b37 h))))
def f_A_type (a0 : Option Nat) (a1 : Int32) (h : gk_H) : Option ((Sum (Int32) String) × gk_H) :=
f_A_type_b5 gk_F a0 a1 (0 : Int32) (24 : Int32) h
def f_Va_ofText (a0 : Option Nat) (h : gk_H) : Option ((Option Nat) × gk_H) :=
gk_cv h a0 0 (f_St_length a0 h) fun x1 h1 =>
if x1 ≤ (255 : Int32) then
(gk_nw h1 2 7 fun x2 h2 =>
gk_cv h2 x2 2 (f_Va_init x2 (2 : Int32) (0 : Int32) (0x0000000000000000) a0 (1 : Int32) (1 : Int32) none h2) fun _ h3 =>
some (x2, h3))
else
(gk_nw h1 2 7 fun x3 h4 =>
gk_cv h4 x3 2 (f_Va_init x3 (4 : Int32) (3 : Int32) (0x0000000000000000) (some 4) (1 : Int32) (1 : Int32) none h4) fun _ h5 =>
some (x3, h5))
def f_A_text (a0 : Option Nat) (h : gk_H) : Option ((Sum (Unit) String) × gk_H) :=
((gk_get h a0 5 2).bind gk_asR).bind fun x1 =>
gk_cv h x1 1 (f_SB_toString x1 h) fun x2 h1 =>
gk_ca (f_Va_ofText x2 h1) fun x3 h2 =>
gk_cx h2 a0 5 (f_A_push a0 x3 h2) (fun _ h3 =>
((gk_get h3 a0 5 2).bind gk_asR).bind fun x4 =>
gk_cv h3 x4 1 (f_SB_setLength x4 (0 : Int32) h3) fun _ h4 =>
some (.inl (), h4)) Sum.inr
def f_Va_ofTruth_b14  (s0 : Option Nat) (s1 : Option Nat) (s2 : Int32) (s3 : Int32) (h : gk_H) : Option ((Option Nat) × gk_H) :=
gk_cv h s1 2 (f_Va_init s1 s2 s3 (0x0000000000000000) (some 4) (1 : Int32) (1 : Int32) none h) fun _ h1 =>
some (s0, h1)
def f_Va_ofTruth (a0 : Int32) (h : gk_H) : Option ((Option Nat) × gk_H) :=
gk_nw h 2 7 fun x1 h1 =>
if a0 = 0 then
(f_Va_ofTruth_b14 x1 x1 (3 : Int32) (0 : Int32) h1)
else
(f_Va_ofTruth_b14 x1 x1 (3 : Int32) (1 : Int32) h1)
def f_A_plain_b75   (h : gk_H) : Option ((Sum (Unit) String) × gk_H) :=
some (.inr "java/lang/IllegalArgumentException", gk_thrown h)
def f_A_plain_b85   (h : gk_H) : Option ((Sum (Unit) String) × gk_H) :=
some (.inl (), h)
def f_A_plain_b48  (v0 : Option Nat) (v1 : Int32) (v2 : Int32) (h : gk_H) : Option ((Sum (Unit) String) × gk_H) :=
if v1 = (4 : Int32) then
(if v2 < (1 : Int32) then
(f_A_plain_b75 h)
else
(if (8 : Int32) < v2 then
(f_A_plain_b75 h)
else
(gk_ca (f_Va_ofError v2 h) fun x1 h1 =>
gk_cx h1 v0 5 (f_A_push v0 x1 h1) (fun _ h2 =>
f_A_plain_b85 h2) Sum.inr)))
else
(f_A_plain_b75 h)
def f_A_plain_b39  (s0 : Option Nat) (s1 : Int32) (h : gk_H) : Option ((Sum (Unit) String) × gk_H) :=
gk_ca (f_Va_ofTruth s1 h) fun x1 h1 =>
gk_cx h1 s0 5 (f_A_push s0 x1 h1) (fun _ h2 =>
f_A_plain_b85 h2) Sum.inr
def f_A_plain_b28  (v0 : Option Nat) (v2 : Int32) (h : gk_H) : Option ((Sum (Unit) String) × gk_H) :=
if v2 = (1 : Int32) then
(f_A_plain_b39 v0 (1 : Int32) h)
else
(f_A_plain_b39 v0 (0 : Int32) h)
def f_A_plain (a0 : Option Nat) (a1 : Int32) (a2 : Int32) (h : gk_H) : Option ((Sum (Unit) String) × gk_H) :=
if a1 = 0 then
(gk_ca (f_Va_ofNothing  h) fun x1 h1 =>
gk_cx h1 a0 5 (f_A_push a0 x1 h1) (fun _ h2 =>
f_A_plain_b85 h2) Sum.inr)
else
(if a1 = (3 : Int32) then
(if a2 = 0 then
(f_A_plain_b28 a0 a2 h)
else
(if a2 = (1 : Int32) then
(f_A_plain_b28 a0 a2 h)
else
(f_A_plain_b48 a0 a1 a2 h)))
else
(f_A_plain_b48 a0 a1 a2 h))
def f_Va_ofCells (a0 : Int32) (a1 : Int32) (a2 : Option Nat) (h : gk_H) : Option ((Option Nat) × gk_H) :=
gk_nw h 2 7 fun x1 h1 =>
gk_cv h1 x1 2 (f_Va_init x1 (5 : Int32) (0 : Int32) (0x0000000000000000) (some 4) a0 a1 a2 h1) fun _ h2 =>
some (x1, h2)
def f_A_replaceUpper_b40  (v0 : Option Nat) (v2 : Option Nat) (h : gk_H) : Option ((Sum (Unit) String) × gk_H) :=
gk_cx h v0 5 (f_A_push v0 v2 h) (fun _ h1 =>
some (.inl (), h1)) Sum.inr
def f_A_replaceUpper_b2  : Nat → Option Nat → Int32 → Option Nat → Int32 → gk_H → Option ((Sum (Unit) String) × gk_H)
  | 0 => fun _ _ _ _ _ => none
  | fu + 1 => fun v0 v1 v2 v3 h =>
if v1 ≤ v3 then
(f_A_replaceUpper_b40 v0 v2 h)
else
(((gk_get h v0 5 1).bind gk_asI).bind fun x1 =>
if x1 ≤ 0 then
(f_A_replaceUpper_b40 v0 v2 h)
else
(((gk_get h v0 5 1).bind gk_asI).bind fun x2 =>
(gk_set h v0 5 1 (.int (x2 - (1 : Int32)))).bind fun h1 =>
((gk_get h1 v0 5 0).bind gk_asR).bind fun x3 =>
((gk_get h1 v0 5 1).bind gk_asI).bind fun x4 =>
(gk_ast h1 x3 7 x4 (va_rf none)).bind fun h2 =>
gk_let (v3 + (1 : Int32)) fun x5 =>
(f_A_replaceUpper_b2 fu) v0 v1 v2 x5 h2))
def f_A_replaceUpper (a0 : Option Nat) (a1 : Int32) (a2 : Option Nat) (h : gk_H) : Option ((Sum (Unit) String) × gk_H) :=
f_A_replaceUpper_b2 gk_F a0 a1 a2 (0 : Int32) h
def f_A_array_b10   (h : gk_H) : Option ((Sum (Unit) String) × gk_H) :=
some (.inr "java/lang/IllegalArgumentException", gk_thrown h)
def f_A_array_b46   (h : gk_H) : Option ((Sum (Unit) String) × gk_H) :=
some (.inr "java/lang/IllegalArgumentException", gk_thrown h)
def f_A_array_b118  : Nat → Option Nat → Int32 → Int32 → Int32 → Option Nat → Int32 → gk_H → Option ((Sum (Unit) String) × gk_H)
  | 0 => fun _ _ _ _ _ _ _ => none
  | fu + 1 => fun v0 v1 v2 v3 v4 v5 h =>
(gk_len h v4).bind fun x1 =>
if x1 ≤ v5 then
((gk_len h v4).bind fun x2 =>
gk_ca (f_Va_ofCells v1 v2 v4 h) fun x3 h1 =>
gk_cx h1 v0 5 (f_A_replaceUpper v0 x2 x3 h1) (fun _ h2 =>
some (.inl (), h2)) Sum.inr)
else
(((gk_get h v0 5 0).bind gk_asR).bind fun x4 =>
((gk_ald h x4 7 (v3 + v5)).bind gk_asR).bind fun x5 =>
(gk_ast h v4 7 v5 (va_rf x5)).bind fun h3 =>
gk_let (v5 + (1 : Int32)) fun x6 =>
(f_A_array_b118 fu) v0 v1 v2 v3 v4 x6 h3)
def f_A_array_b68  : Nat → Option Nat → Int32 → Int32 → Int32 → Int32 → gk_H → Option ((Sum (Unit) String) × gk_H)
  | 0 => fun _ _ _ _ _ _ => none
  | fu + 1 => fun v0 v1 v2 v3 v4 h =>
((gk_get h v0 5 1).bind gk_asI).bind fun x1 =>
if x1 ≤ v4 then
(gk_na h 7 (v1 * v2) fun x2 h1 =>
f_A_array_b118 gk_F v0 v1 v2 v3 x2 (0 : Int32) h1)
else
(((gk_get h v0 5 0).bind gk_asR).bind fun x3 =>
((gk_ald h x3 7 v4).bind gk_asR).bind fun x4 =>
((gk_get h x4 2 0).bind gk_asI).bind fun x5 =>
if x5 = (5 : Int32) then
(some (.inr "java/lang/IllegalArgumentException", gk_thrown h))
else
(gk_let (v4 + (1 : Int32)) fun x6 =>
(f_A_array_b68 fu) v0 v1 v2 v3 x6 h))
def f_A_array (a0 : Option Nat) (a1 : Int32) (a2 : Int32) (h : gk_H) : Option ((Sum (Unit) String) × gk_H) :=
if a1 < (1 : Int32) then
(f_A_array_b10 h)
else
(if (1 : Int32) ≤ a2 then
(((gk_get h a0 5 1).bind gk_asI).bind fun x1 =>
if x1 < a1 then
(f_A_array_b46 h)
else
(((gk_get h a0 5 1).bind gk_asI).bind fun x2 =>
if x2 < a2 then
(f_A_array_b46 h)
else
(((gk_get h a0 5 1).bind gk_asI).bind fun x3 =>
if (a1 * a2) ≤ x3 then
(((gk_get h a0 5 1).bind gk_asI).bind fun x4 =>
gk_let (x4 - (a1 * a2)) fun x5 =>
f_A_array_b68 gk_F a0 a1 a2 x5 x5 h)
else
(f_A_array_b46 h))))
else
(f_A_array_b10 h))
def f_Op_takesOne_b14  (s0 : Int32) (h : gk_H) : Option (Int32 × gk_H) :=
if narrow .boolean (.int s0) = .int s0 then some (s0, h) else none
def f_Op_takesOne_b9   (h : gk_H) : Option (Int32 × gk_H) :=
f_Op_takesOne_b14 (1 : Int32) h
def f_Op_takesOne (a0 : Int32) (h : gk_H) : Option (Int32 × gk_H) :=
if a0 = 0 then
(f_Op_takesOne_b9 h)
else
(if a0 = (1 : Int32) then
(f_Op_takesOne_b9 h)
else
(f_Op_takesOne_b14 (0 : Int32) h))
def f_Va_howManyCells (a0 : Option Nat) (h : gk_H) : Option (Int32 × gk_H) :=
((gk_get h a0 2 4).bind gk_asI).bind fun x1 =>
((gk_get h a0 2 5).bind gk_asI).bind fun x2 =>
some ((x1 * x2), h)
def f_Va_cellAt_b20  (v0 : Option Nat) (h : gk_H) : Option ((Option Nat) × gk_H) :=
some (v0, h)
def f_Va_cellAt (a0 : Option Nat) (a1 : Int32) (h : gk_H) : Option ((Option Nat) × gk_H) :=
((gk_get h a0 2 6).bind gk_asR).bind fun x1 =>
if x1 = none then
(f_Va_cellAt_b20 a0 h)
else
(if a1 < 0 then
(f_Va_cellAt_b20 a0 h)
else
(((gk_get h a0 2 6).bind gk_asR).bind fun x2 =>
(gk_len h x2).bind fun x3 =>
if a1 < x3 then
(((gk_get h a0 2 6).bind gk_asR).bind fun x4 =>
((gk_ald h x4 7 a1).bind gk_asR).bind fun x5 =>
some (x5, h))
else
(f_Va_cellAt_b20 a0 h)))
def f_Ar_take_b96  (v0 : Option Nat) (h : gk_H) : Option (Unit × gk_H) :=
(gk_set h v0 4 3 (.int (0 : Int32))).bind fun h1 =>
(gk_set h1 v0 4 5 (.int (0 : Int32))).bind fun h2 =>
some ((), h2)
def f_Ar_take_b79 (b8 : Option Nat → Option Nat → Int32 → Int32 → Int32 → gk_H → Option (Unit × gk_H)) (v0 : Option Nat) (v1 : Option Nat) (v2 : Int32) (v3 : Int32) (v4 : Int32) (s0 : Option Nat) (s1 : Int32) (s2 : Option Nat) (h : gk_H) : Option (Unit × gk_H) :=
(gk_ast h s0 7 s1 (va_rf s2)).bind fun h1 =>
((gk_get h1 v0 4 2).bind gk_asI).bind fun x1 =>
(gk_set h1 v0 4 2 (.int (x1 + (1 : Int32)))).bind fun h2 =>
gk_let (v4 + (1 : Int32)) fun x2 =>
b8 v0 v1 v2 v3 x2 h2
def f_Ar_take_b8  : Nat → Option Nat → Option Nat → Int32 → Int32 → Int32 → gk_H → Option (Unit × gk_H)
  | 0 => fun _ _ _ _ _ _ => none
  | fu + 1 => fun v0 v1 v2 v3 v4 h =>
if v3 ≤ v4 then
(f_Ar_take_b96 v0 h)
else
(if (8 : Int32) ≤ v4 then
(f_Ar_take_b96 v0 h)
else
(if v2 < 0 then
(f_Ar_take_b96 v0 h)
else
((gk_len h v1).bind fun x1 =>
if x1 ≤ (v2 + v4) then
(f_Ar_take_b96 v0 h)
else
(((gk_ald h v1 7 (v2 + v4)).bind gk_asR).bind fun x2 =>
((gk_get h v0 4 0).bind gk_asR).bind fun x3 =>
(gk_ast h x3 7 v4 (va_rf x2)).bind fun h1 =>
((gk_get h1 v0 4 1).bind gk_asR).bind fun x4 =>
gk_cv h1 x2 2 (f_Va_howManyCells x2 h1) fun x5 h2 =>
if x5 = (1 : Int32) then
(gk_cv h2 x2 2 (f_Va_cellAt x2 (0 : Int32) h2) fun x6 h3 =>
f_Ar_take_b79 (f_Ar_take_b8 fu) v0 v1 v2 v3 v4 x4 v4 x6 h3)
else
(((gk_get h2 v0 4 7).bind gk_asR).bind fun x7 =>
f_Ar_take_b79 (f_Ar_take_b8 fu) v0 v1 v2 v3 v4 x4 v4 x7 h2)))))
def f_Ar_take (a0 : Option Nat) (a1 : Option Nat) (a2 : Int32) (a3 : Int32) (h : gk_H) : Option (Unit × gk_H) :=
(gk_set h a0 4 2 (.int (0 : Int32))).bind fun h1 =>
f_Ar_take_b8 gk_F a0 a1 a2 a3 (0 : Int32) h1
def f_Ar_single_b25  (s0 : Option Nat) (h : gk_H) : Option ((Option Nat) × gk_H) :=
some (s0, h)
def f_Ar_single_b21  (v0 : Option Nat) (h : gk_H) : Option ((Option Nat) × gk_H) :=
((gk_get h v0 4 6).bind gk_asR).bind fun x1 =>
f_Ar_single_b25 x1 h
def f_Ar_single (a0 : Option Nat) (a1 : Int32) (h : gk_H) : Option ((Option Nat) × gk_H) :=
if a1 < 0 then
(f_Ar_single_b21 a0 h)
else
(((gk_get h a0 4 2).bind gk_asI).bind fun x1 =>
if x1 ≤ a1 then
(f_Ar_single_b21 a0 h)
else
(((gk_get h a0 4 1).bind gk_asR).bind fun x2 =>
((gk_ald h x2 7 a1).bind gk_asR).bind fun x3 =>
f_Ar_single_b25 x3 h))
def f_Ar_blame_b12   (h : gk_H) : Option (Unit × gk_H) :=
some ((), h)
def f_Ar_blame (a0 : Option Nat) (a1 : Int32) (h : gk_H) : Option (Unit × gk_H) :=
((gk_get h a0 4 3).bind gk_asI).bind fun x1 =>
if x1 = 0 then
((gk_set h a0 4 3 (.int a1)).bind fun h1 =>
f_Ar_blame_b12 h1)
else
(f_Ar_blame_b12 h)
def f_Ar_sound_b22  (v2 : Option Nat) (h : gk_H) : Option ((Option Nat) × gk_H) :=
some (v2, h)
def f_Ar_sound (a0 : Option Nat) (a1 : Int32) (h : gk_H) : Option ((Option Nat) × gk_H) :=
gk_cv h a0 4 (f_Ar_single a0 a1 h) fun x1 h1 =>
((gk_get h1 x1 2 0).bind gk_asI).bind fun x2 =>
if x2 = (4 : Int32) then
(((gk_get h1 x1 2 1).bind gk_asI).bind fun x3 =>
gk_cv h1 a0 4 (f_Ar_blame a0 x3 h1) fun _ h2 =>
f_Ar_sound_b22 x1 h2)
else
(f_Ar_sound_b22 x1 h1)
def f_Le_behindSpaces_b26  (v2 : Int32) (h : gk_H) : Option (Int32 × gk_H) :=
some (v2, h)
def f_Le_behindSpaces_b2  : Nat → Option Nat → Int32 → gk_H → Option (Int32 × gk_H)
  | 0 => fun _ _ _ => none
  | fu + 1 => fun v0 v2 h =>
gk_cv h v0 0 (f_St_length v0 h) fun x1 h1 =>
if x1 ≤ v2 then
(f_Le_behindSpaces_b26 v2 h1)
else
(gk_cv h1 v0 0 (f_St_charAt v0 v2 h1) fun x2 h2 =>
if x2 = (32 : Int32) then
(gk_let (v2 + (1 : Int32)) fun x3 =>
(f_Le_behindSpaces_b2 fu) v0 x3 h2)
else
(f_Le_behindSpaces_b26 v2 h2))
def f_Le_behindSpaces (a0 : Option Nat) (a1 : Int32) (h : gk_H) : Option (Int32 × gk_H) :=
f_Le_behindSpaces_b2 gk_F a0 a1 h
def f_Le_isOfDigits_b23  (s0 : Int32) (h : gk_H) : Option (Int32 × gk_H) :=
if narrow .boolean (.int s0) = .int s0 then some (s0, h) else none
def f_Le_isOfDigits_b18   (h : gk_H) : Option (Int32 × gk_H) :=
f_Le_isOfDigits_b23 (1 : Int32) h
def f_Le_isOfDigits_b22   (h : gk_H) : Option (Int32 × gk_H) :=
f_Le_isOfDigits_b23 (0 : Int32) h
def f_Le_isOfDigits (a0 : Int32) (h : gk_H) : Option (Int32 × gk_H) :=
if a0 = (46 : Int32) then
(f_Le_isOfDigits_b18 h)
else
(if a0 < (48 : Int32) then
(f_Le_isOfDigits_b22 h)
else
(if (57 : Int32) < a0 then
(f_Le_isOfDigits_b22 h)
else
(f_Le_isOfDigits_b18 h)))
def f_Le_isNumeral_b129  (s0 : Int32) (h : gk_H) : Option (Int32 × gk_H) :=
if narrow .boolean (.int s0) = .int s0 then some (s0, h) else none
def f_Le_isNumeral_b128   (h : gk_H) : Option (Int32 × gk_H) :=
f_Le_isNumeral_b129 (0 : Int32) h
def f_Le_isNumeral_b96  (v0 : Option Nat) (v1 : Int32) (v2 : Int32) (v3 : Int32) (h : gk_H) : Option (Int32 × gk_H) :=
if v2 < (1 : Int32) then
(f_Le_isNumeral_b128 h)
else
(if (15 : Int32) < v2 then
(f_Le_isNumeral_b128 h)
else
(if (1 : Int32) < v3 then
(f_Le_isNumeral_b128 h)
else
(gk_ca (f_Le_behindSpaces v0 v1 h) fun x1 h1 =>
gk_cv h1 v0 0 (f_St_length v0 h1) fun x2 h2 =>
if x1 = x2 then
(f_Le_isNumeral_b129 (1 : Int32) h2)
else
(f_Le_isNumeral_b128 h2))))
def f_Le_isNumeral_b75  (v0 : Option Nat) (v1 : Int32) (v2 : Int32) (v3 : Int32) (h : gk_H) : Option (Int32 × gk_H) :=
gk_cv h v0 0 (f_St_length v0 h) fun x1 h1 =>
if x1 ≤ v1 then
(f_Le_isNumeral_b96 v0 v1 v2 v3 h1)
else
(gk_cv h1 v0 0 (f_St_charAt v0 v1 h1) fun x2 h2 =>
if x2 = (37 : Int32) then
(gk_let (v1 + (1 : Int32)) fun x3 =>
f_Le_isNumeral_b96 v0 x3 v2 v3 h2)
else
(f_Le_isNumeral_b96 v0 v1 v2 v3 h2))
def f_Le_isNumeral_b69 (b31 : Option Nat → Int32 → Int32 → Int32 → gk_H → Option (Int32 × gk_H)) (v0 : Option Nat) (v1 : Int32) (v2 : Int32) (v3 : Int32) (h : gk_H) : Option (Int32 × gk_H) :=
gk_let (v1 + (1 : Int32)) fun x1 =>
b31 v0 x1 v2 v3 h
def f_Le_isNumeral_b31  : Nat → Option Nat → Int32 → Int32 → Int32 → gk_H → Option (Int32 × gk_H)
  | 0 => fun _ _ _ _ _ => none
  | fu + 1 => fun v0 v1 v2 v3 h =>
gk_cv h v0 0 (f_St_length v0 h) fun x1 h1 =>
if x1 ≤ v1 then
(f_Le_isNumeral_b75 v0 v1 v2 v3 h1)
else
(gk_cv h1 v0 0 (f_St_charAt v0 v1 h1) fun x2 h2 =>
gk_ca (f_Le_isOfDigits x2 h2) fun x3 h3 =>
if x3 = 0 then
(f_Le_isNumeral_b75 v0 v1 v2 v3 h3)
else
(gk_cv h3 v0 0 (f_St_charAt v0 v1 h3) fun x4 h4 =>
if x4 = (46 : Int32) then
(gk_let (v3 + (1 : Int32)) fun x5 =>
f_Le_isNumeral_b69 (f_Le_isNumeral_b31 fu) v0 v1 v2 x5 h4)
else
(gk_let (v2 + (1 : Int32)) fun x6 =>
f_Le_isNumeral_b69 (f_Le_isNumeral_b31 fu) v0 v1 x6 v3 h4)))
def f_Le_isNumeral_b27  (v0 : Option Nat) (v1 : Int32) (h : gk_H) : Option (Int32 × gk_H) :=
f_Le_isNumeral_b31 gk_F v0 v1 (0 : Int32) (0 : Int32) h
def f_Le_isNumeral (a0 : Option Nat) (h : gk_H) : Option (Int32 × gk_H) :=
gk_ca (f_Le_behindSpaces a0 (0 : Int32) h) fun x1 h1 =>
gk_cv h1 a0 0 (f_St_length a0 h1) fun x2 h2 =>
if x2 ≤ x1 then
(f_Le_isNumeral_b27 a0 x1 h2)
else
(gk_cv h2 a0 0 (f_St_charAt a0 x1 h2) fun x3 h3 =>
if x3 = (45 : Int32) then
(gk_let (x1 + (1 : Int32)) fun x4 =>
f_Le_isNumeral_b27 a0 x4 h3)
else
(f_Le_isNumeral_b27 a0 x1 h3))
def f_Am_tenTo_b32  (v2 : UInt64) (h : gk_H) : Option (UInt64 × gk_H) :=
some (v2, h)
def f_Am_tenTo_b5  : Nat → Int64 → UInt64 → Int32 → gk_H → Option (UInt64 × gk_H)
  | 0 => fun _ _ _ _ => none
  | fu + 1 => fun v0 v2 v4 h =>
if 0 ≤ (lg_cmp (Int32.toInt64 v4) v0) then
(f_Am_tenTo_b32 v2 h)
else
(if (22 : Int32) ≤ v4 then
(f_Am_tenTo_b32 v2 h)
else
(gk_dop (FP.dmul v2 (0x4024000000000000)) fun x1 =>
gk_let (v4 + (1 : Int32)) fun x2 =>
(f_Am_tenTo_b5 fu) v0 x1 x2 h))
def f_Am_tenTo (a0 : Int64) (h : gk_H) : Option (UInt64 × gk_H) :=
f_Am_tenTo_b5 gk_F a0 (0x3ff0000000000000) (0 : Int32) h
def f_Le_numeral_b146  (s0 : UInt64) (h : gk_H) : Option (UInt64 × gk_H) :=
some (s0, h)
def f_Le_numeral_b128  (v0 : Option Nat) (v5 : UInt64) (h : gk_H) : Option (UInt64 × gk_H) :=
gk_cv h v0 0 (f_St_indexOf_I v0 (45 : Int32) h) fun x1 h1 =>
if x1 < 0 then
(f_Le_numeral_b146 v5 h1)
else
(gk_dop (FP.dsub (0x0000000000000000) v5) fun x2 =>
f_Le_numeral_b146 x2 h1)
def f_Le_numeral_b109  (v0 : Option Nat) (s0 : UInt64) (h : gk_H) : Option (UInt64 × gk_H) :=
gk_cv h v0 0 (f_St_indexOf_I v0 (37 : Int32) h) fun x1 h1 =>
if x1 < 0 then
(f_Le_numeral_b128 v0 s0 h1)
else
(gk_dop (FP.ddiv s0 (0x4059000000000000)) fun x2 =>
f_Le_numeral_b128 v0 x2 h1)
def f_Le_numeral_b86 (b10 : Option Nat → Int64 → Int32 → Int32 → Int32 → gk_H → Option (UInt64 × gk_H)) (v0 : Option Nat) (v1 : Int64) (v3 : Int32) (v4 : Int32) (v5 : Int32) (h : gk_H) : Option (UInt64 × gk_H) :=
gk_let (v5 + (1 : Int32)) fun x1 =>
b10 v0 v1 v3 v4 x1 h
def f_Le_numeral_b84 (b10 : Option Nat → Int64 → Int32 → Int32 → Int32 → gk_H → Option (UInt64 × gk_H)) (v0 : Option Nat) (v1 : Int64) (v4 : Int32) (v5 : Int32) (s0 : Int32) (s1 : Int32) (h : gk_H) : Option (UInt64 × gk_H) :=
gk_let (s0 + s1) fun x1 =>
f_Le_numeral_b86 b10 v0 v1 x1 v4 v5 h
def f_Le_numeral_b44 (b10 : Option Nat → Int64 → Int32 → Int32 → Int32 → gk_H → Option (UInt64 × gk_H)) (v0 : Option Nat) (v1 : Int64) (v3 : Int32) (v5 : Int32) (v6 : Int32) (s0 : Int32) (h : gk_H) : Option (UInt64 × gk_H) :=
if v6 < (48 : Int32) then
(f_Le_numeral_b86 b10 v0 v1 v3 s0 v5 h)
else
(if (57 : Int32) < v6 then
(f_Le_numeral_b86 b10 v0 v1 v3 s0 v5 h)
else
(gk_let ((v1 * (10 : Int64)) + (Int32.toInt64 (v6 - (48 : Int32)))) fun x1 =>
if s0 = 0 then
(f_Le_numeral_b84 b10 v0 x1 s0 v5 v3 (0 : Int32) h)
else
(f_Le_numeral_b84 b10 v0 x1 s0 v5 v3 (1 : Int32) h)))
def f_Le_numeral_b39 (b10 : Option Nat → Int64 → Int32 → Int32 → Int32 → gk_H → Option (UInt64 × gk_H)) (v0 : Option Nat) (v1 : Int64) (v3 : Int32) (v5 : Int32) (v6 : Int32) (h : gk_H) : Option (UInt64 × gk_H) :=
f_Le_numeral_b44 b10 v0 v1 v3 v5 v6 (1 : Int32) h
def f_Le_numeral_b10  : Nat → Option Nat → Int64 → Int32 → Int32 → Int32 → gk_H → Option (UInt64 × gk_H)
  | 0 => fun _ _ _ _ _ _ => none
  | fu + 1 => fun v0 v1 v3 v4 v5 h =>
gk_cv h v0 0 (f_St_length v0 h) fun x1 h1 =>
if x1 ≤ v5 then
(if v3 ≤ 0 then
(f_Le_numeral_b109 v0 (FP.l2d v1) h1)
else
(gk_ca (f_Am_tenTo (Int32.toInt64 v3) h1) fun x2 h2 =>
gk_dop (FP.ddiv (FP.l2d v1) x2) fun x3 =>
f_Le_numeral_b109 v0 x3 h2))
else
(gk_cv h1 v0 0 (f_St_charAt v0 v5 h1) fun x4 h3 =>
if v4 = 0 then
(if x4 = (46 : Int32) then
(f_Le_numeral_b39 (f_Le_numeral_b10 fu) v0 v1 v3 v5 x4 h3)
else
(f_Le_numeral_b44 (f_Le_numeral_b10 fu) v0 v1 v3 v5 x4 (0 : Int32) h3))
else
(f_Le_numeral_b39 (f_Le_numeral_b10 fu) v0 v1 v3 v5 x4 h3))
def f_Le_numeral (a0 : Option Nat) (h : gk_H) : Option (UInt64 × gk_H) :=
f_Le_numeral_b10 gk_F a0 (0 : Int64) (0 : Int32) (0 : Int32) (0 : Int32) h
def f_Ar_amount (a0 : Option Nat) (a1 : Int32) (h : gk_H) : Option (UInt64 × gk_H) :=
gk_cv h a0 4 (f_Ar_sound a0 a1 h) fun x1 h1 =>
((gk_get h1 x1 2 0).bind gk_asI).bind fun x2 =>
if x2 = (1 : Int32) then
(((gk_get h1 x1 2 2).bind gk_asD).bind fun x3 =>
some (x3, h1))
else if x2 = (2 : Int32) then
(((gk_get h1 x1 2 3).bind gk_asR).bind fun x4 =>
gk_ca (f_Le_isNumeral x4 h1) fun x5 h2 =>
if x5 = 0 then
(gk_cv h2 a0 4 (f_Ar_blame a0 (3 : Int32) h2) fun _ h3 =>
some ((0x0000000000000000), h3))
else
(((gk_get h2 x1 2 3).bind gk_asR).bind fun x6 =>
gk_ca (f_Le_numeral x6 h2) fun x7 h4 =>
some (x7, h4)))
else if x2 = (3 : Int32) then
(((gk_get h1 x1 2 1).bind gk_asI).bind fun x8 =>
some ((FP.i2d x8), h1))
else 
(some ((0x0000000000000000), h1))
def f_Le_canBeWritten_b21  (s0 : Int32) (h : gk_H) : Option (Int32 × gk_H) :=
if narrow .boolean (.int s0) = .int s0 then some (s0, h) else none
def f_Le_canBeWritten_b20   (h : gk_H) : Option (Int32 × gk_H) :=
f_Le_canBeWritten_b21 (0 : Int32) h
def f_Le_canBeWritten (a0 : UInt64) (h : gk_H) : Option (Int32 × gk_H) :=
if 0 ≤ (Op.cmpValue (FP.dcmp a0 (0x430c6bf526340000)) .g) then
(f_Le_canBeWritten_b20 h)
else
(if (Op.cmpValue (FP.dcmp a0 (0xc30c6bf526340000)) .l) ≤ 0 then
(f_Le_canBeWritten_b20 h)
else
(f_Le_canBeWritten_b21 (1 : Int32) h))
def f_Am_isWithinWhole_b21  (s0 : Int32) (h : gk_H) : Option (Int32 × gk_H) :=
if narrow .boolean (.int s0) = .int s0 then some (s0, h) else none
def f_Am_isWithinWhole_b20   (h : gk_H) : Option (Int32 × gk_H) :=
f_Am_isWithinWhole_b21 (0 : Int32) h
def f_Am_isWithinWhole (a0 : UInt64) (h : gk_H) : Option (Int32 × gk_H) :=
if 0 ≤ (Op.cmpValue (FP.dcmp a0 (0x4340000000000000)) .g) then
(f_Am_isWithinWhole_b20 h)
else
(if (Op.cmpValue (FP.dcmp a0 (0xc340000000000000)) .l) ≤ 0 then
(f_Am_isWithinWhole_b20 h)
else
(f_Am_isWithinWhole_b21 (1 : Int32) h))
def f_Am_wholePart_b14  (s0 : UInt64) (h : gk_H) : Option (UInt64 × gk_H) :=
some (s0, h)
def f_Am_wholePart (a0 : UInt64) (h : gk_H) : Option (UInt64 × gk_H) :=
gk_ca (f_Am_isWithinWhole a0 h) fun x1 h1 =>
if x1 = 0 then
(f_Am_wholePart_b14 a0 h1)
else
(f_Am_wholePart_b14 (FP.l2d (FP.d2l a0)) h1)
def f_Le_appendBackwards_b75   (h : gk_H) : Option (Unit × gk_H) :=
some ((), h)
def f_Le_appendBackwards_b44 (b6 : Option Nat → Int32 → Int64 → Int32 → gk_H → Option (Unit × gk_H)) (v0 : Option Nat) (v3 : Int32) (v4 : Int64) (v6 : Int32) (h : gk_H) : Option (Unit × gk_H) :=
gk_cv h v0 1 (f_SB_append_C v0 (UInt32.toInt32 (Int32.toUInt32 (Int64.toInt32 ((48 : Int64) + (v4 - v4 / (10 : Int64) * (10 : Int64)))) % 65536)) h) fun x1 h1 =>
gk_let (v4 / (10 : Int64)) fun x2 =>
gk_let (v6 + (1 : Int32)) fun x3 =>
b6 v0 v3 x2 x3 h1
def f_Le_appendBackwards_b31 (b6 : Option Nat → Int32 → Int64 → Int32 → gk_H → Option (Unit × gk_H)) (v0 : Option Nat) (v3 : Int32) (v4 : Int64) (v6 : Int32) (h : gk_H) : Option (Unit × gk_H) :=
if v6 = v3 then
(gk_cv h v0 1 (f_SB_append_C v0 (46 : Int32) h) fun x1 h1 =>
f_Le_appendBackwards_b44 b6 v0 v3 v4 v6 h1)
else
(f_Le_appendBackwards_b44 b6 v0 v3 v4 v6 h)
def f_Le_appendBackwards_b6  : Nat → Option Nat → Int32 → Int64 → Int32 → gk_H → Option (Unit × gk_H)
  | 0 => fun _ _ _ _ _ => none
  | fu + 1 => fun v0 v3 v4 v6 h =>
if (19 : Int32) ≤ v6 then
(f_Le_appendBackwards_b75 h)
else
(if 0 < (lg_cmp v4 (0 : Int64)) then
(f_Le_appendBackwards_b31 (f_Le_appendBackwards_b6 fu) v0 v3 v4 v6 h)
else
(if v6 ≤ v3 then
(f_Le_appendBackwards_b31 (f_Le_appendBackwards_b6 fu) v0 v3 v4 v6 h)
else
(if v6 = 0 then
(f_Le_appendBackwards_b31 (f_Le_appendBackwards_b6 fu) v0 v3 v4 v6 h)
else
(f_Le_appendBackwards_b75 h))))
def f_Le_appendBackwards (a0 : Option Nat) (a1 : Int64) (a2 : Int32) (h : gk_H) : Option (Unit × gk_H) :=
f_Le_appendBackwards_b6 gk_F a0 a2 a1 (0 : Int32) h
def f_Le_leaveOutZeros_b48  (v0 : Option Nat) (v1 : Int32) (h : gk_H) : Option (Unit × gk_H) :=
gk_cv h v0 1 (f_SB_setLength v0 v1 h) fun _ h1 =>
some ((), h1)
def f_Le_leaveOutZeros_b28  (v0 : Option Nat) (v1 : Int32) (h : gk_H) : Option (Unit × gk_H) :=
if v1 ≤ (1 : Int32) then
(f_Le_leaveOutZeros_b48 v0 v1 h)
else
(gk_cv h v0 1 (f_SB_charAt v0 (v1 - (1 : Int32)) h) fun x1 h1 =>
if x1 = (46 : Int32) then
(gk_let (v1 + (-1 : Int32)) fun x2 =>
f_Le_leaveOutZeros_b48 v0 x2 h1)
else
(f_Le_leaveOutZeros_b48 v0 v1 h1))
def f_Le_leaveOutZeros_b5  : Nat → Option Nat → Int32 → gk_H → Option (Unit × gk_H)
  | 0 => fun _ _ _ => none
  | fu + 1 => fun v0 v1 h =>
if v1 ≤ (1 : Int32) then
(f_Le_leaveOutZeros_b28 v0 v1 h)
else
(gk_cv h v0 1 (f_SB_charAt v0 (v1 - (1 : Int32)) h) fun x1 h1 =>
if x1 = (48 : Int32) then
(gk_let (v1 + (-1 : Int32)) fun x2 =>
(f_Le_leaveOutZeros_b5 fu) v0 x2 h1)
else
(f_Le_leaveOutZeros_b28 v0 v1 h1))
def f_Le_leaveOutZeros (a0 : Option Nat) (h : gk_H) : Option (Unit × gk_H) :=
gk_cv h a0 1 (f_SB_length a0 h) fun x1 h1 =>
f_Le_leaveOutZeros_b5 gk_F a0 x1 h1
def f_Le_written_b118  (v2 : Option Nat) (h : gk_H) : Option ((Option Nat) × gk_H) :=
gk_cv h v2 1 (f_SB_toString v2 h) fun x1 h1 =>
some (x1, h1)
def f_Le_written_b92  (v2 : Option Nat) (v3 : UInt64) (h : gk_H) : Option ((Option Nat) × gk_H) :=
gk_cv h v2 1 (f_SB_reverse v2 h) fun x1 h1 =>
gk_ca (f_Am_wholePart v3 h1) fun x2 h2 =>
if (Op.cmpValue (FP.dcmp v3 x2) .l) = 0 then
(f_Le_written_b118 v2 h2)
else
(if 0 ≤ (Op.cmpValue (FP.dcmp v3 (0x412e848000000000)) .g) then
(f_Le_written_b118 v2 h2)
else
(gk_ca (f_Le_leaveOutZeros v2 h2) fun _ h3 =>
f_Le_written_b118 v2 h3))
def f_Le_written_b79  (v0 : UInt64) (v2 : Option Nat) (v3 : UInt64) (h : gk_H) : Option ((Option Nat) × gk_H) :=
if 0 ≤ (Op.cmpValue (FP.dcmp v0 (0x0000000000000000)) .g) then
(f_Le_written_b92 v2 v3 h)
else
(gk_cv h v2 1 (f_SB_append_C v2 (45 : Int32) h) fun x1 h1 =>
f_Le_written_b92 v2 v3 h1)
def f_Le_written_b21  (v0 : UInt64) (v2 : Option Nat) (s0 : UInt64) (h : gk_H) : Option ((Option Nat) × gk_H) :=
gk_ca (f_Am_wholePart s0 h) fun x1 h1 =>
if (Op.cmpValue (FP.dcmp s0 x1) .l) = 0 then
(gk_ca (f_Le_appendBackwards v2 (FP.d2l s0) (-1 : Int32) h1) fun _ h2 =>
f_Le_written_b79 v0 v2 s0 h2)
else
(if 0 ≤ (Op.cmpValue (FP.dcmp s0 (0x412e848000000000)) .g) then
(gk_dop (FP.dadd s0 (0x3fe0000000000000)) fun x2 =>
gk_ca (f_Le_appendBackwards v2 (FP.d2l x2) (-1 : Int32) h1) fun _ h3 =>
f_Le_written_b79 v0 v2 s0 h3)
else
(gk_dop (FP.dmul s0 (0x41cdcd6500000000)) fun x3 =>
gk_dop (FP.dadd x3 (0x3fe0000000000000)) fun x4 =>
gk_ca (f_Le_appendBackwards v2 (FP.d2l x4) (9 : Int32) h1) fun _ h4 =>
f_Le_written_b79 v0 v2 s0 h4))
def f_Le_written (a0 : UInt64) (h : gk_H) : Option ((Option Nat) × gk_H) :=
gk_nw h 1 4 fun x1 h1 =>
gk_cv h1 x1 1 (f_SB_init x1 h1) fun _ h2 =>
if 0 ≤ (Op.cmpValue (FP.dcmp a0 (0x0000000000000000)) .g) then
(f_Le_written_b21 a0 x1 a0 h2)
else
(gk_dop (FP.dsub (0x0000000000000000) a0) fun x2 =>
f_Le_written_b21 a0 x1 x2 h2)
def f_Ar_lettersOf_b51  (s0 : Option Nat) (h : gk_H) : Option ((Option Nat) × gk_H) :=
some (s0, h)
def f_Ar_lettersOf (a0 : Option Nat) (a1 : Int32) (h : gk_H) : Option ((Option Nat) × gk_H) :=
gk_cv h a0 4 (f_Ar_sound a0 a1 h) fun x1 h1 =>
((gk_get h1 x1 2 0).bind gk_asI).bind fun x2 =>
if x2 = (1 : Int32) then
(((gk_get h1 x1 2 2).bind gk_asD).bind fun x3 =>
gk_ca (f_Le_canBeWritten x3 h1) fun x4 h2 =>
if x4 = 0 then
(gk_cv h2 a0 4 (f_Ar_blame a0 (3 : Int32) h2) fun _ h3 =>
some ((some 10), h3))
else
(((gk_get h2 x1 2 2).bind gk_asD).bind fun x5 =>
gk_ca (f_Le_written x5 h2) fun x6 h4 =>
some (x6, h4)))
else if x2 = (3 : Int32) then
(((gk_get h1 x1 2 1).bind gk_asI).bind fun x7 =>
if x7 = (1 : Int32) then
(f_Ar_lettersOf_b51 (some 6) h1)
else
(f_Ar_lettersOf_b51 (some 8) h1))
else 
(((gk_get h1 x1 2 3).bind gk_asR).bind fun x8 =>
some (x8, h1))
def f_Op_joined (a0 : Option Nat) (a1 : Option Nat) (h : gk_H) : Option ((Option Nat) × gk_H) :=
gk_nw h 1 4 fun x1 h1 =>
gk_cv h1 x1 1 (f_SB_init x1 h1) fun _ h2 =>
gk_cv h2 x1 1 (f_SB_append_String x1 a0 h2) fun x2 h3 =>
gk_cv h3 x1 1 (f_SB_append_String x1 a1 h3) fun x3 h4 =>
gk_cv h4 x1 1 (f_SB_toString x1 h4) fun x4 h5 =>
gk_ca (f_Va_ofText x4 h5) fun x5 h6 =>
some (x5, h6)
def f_Le_great_b24  (s0 : Int32) (h : gk_H) : Option (Int32 × gk_H) :=
if narrow .char (.int s0) = .int s0 then some (s0, h) else none
def f_Le_great_b23  (v0 : Int32) (h : gk_H) : Option (Int32 × gk_H) :=
f_Le_great_b24 v0 h
def f_Le_great (a0 : Int32) (h : gk_H) : Option (Int32 × gk_H) :=
if a0 < (97 : Int32) then
(f_Le_great_b23 a0 h)
else
(if (122 : Int32) < a0 then
(f_Le_great_b23 a0 h)
else
(f_Le_great_b24 (UInt32.toInt32 (Int32.toUInt32 ((a0 - (97 : Int32)) + (65 : Int32)) % 65536)) h))
def f_Le_order_b14  : Nat → Option Nat → Option Nat → Int32 → Int32 → gk_H → Option (Int32 × gk_H)
  | 0 => fun _ _ _ _ _ => none
  | fu + 1 => fun v0 v1 v2 v3 h =>
if v2 ≤ v3 then
(gk_cv h v0 0 (f_St_length v0 h) fun x1 h1 =>
gk_cv h1 v1 0 (f_St_length v1 h1) fun x2 h2 =>
some ((x1 - x2), h2))
else
(gk_cv h v0 0 (f_St_charAt v0 v3 h) fun x3 h3 =>
gk_ca (f_Le_great x3 h3) fun x4 h4 =>
gk_cv h4 v1 0 (f_St_charAt v1 v3 h4) fun x5 h5 =>
gk_ca (f_Le_great x5 h5) fun x6 h6 =>
gk_let (x4 - x6) fun x7 =>
if x7 = 0 then
(gk_let (v3 + (1 : Int32)) fun x8 =>
(f_Le_order_b14 fu) v0 v1 v2 x8 h6)
else
(some (x7, h6)))
def f_Le_order (a0 : Option Nat) (a1 : Option Nat) (h : gk_H) : Option (Int32 × gk_H) :=
gk_cv h a0 0 (f_St_length a0 h) fun x1 h1 =>
gk_cv h1 a1 0 (f_St_length a1 h1) fun x2 h2 =>
gk_ca (f_Ma_min_II x1 x2 h2) fun x3 h3 =>
f_Le_order_b14 gk_F a0 a1 x3 (0 : Int32) h3
def f_Op_order_b105  (s0 : Int32) (h : gk_H) : Option (Int32 × gk_H) :=
some (s0, h)
def f_Op_order_b34  (v0 : Option Nat) (v1 : Option Nat) (v2 : Int32) (s0 : Int32) (h : gk_H) : Option (Int32 × gk_H) :=
if v2 = s0 then
(if v2 = (1 : Int32) then
(((gk_get h v0 2 2).bind gk_asD).bind fun x1 =>
((gk_get h v1 2 2).bind gk_asD).bind fun x2 =>
if 0 ≤ (Op.cmpValue (FP.dcmp x1 x2) .g) then
(((gk_get h v0 2 2).bind gk_asD).bind fun x3 =>
((gk_get h v1 2 2).bind gk_asD).bind fun x4 =>
if (Op.cmpValue (FP.dcmp x3 x4) .l) ≤ 0 then
(f_Op_order_b105 (0 : Int32) h)
else
(f_Op_order_b105 (1 : Int32) h))
else
(f_Op_order_b105 (-1 : Int32) h))
else if v2 = (2 : Int32) then
(((gk_get h v0 2 3).bind gk_asR).bind fun x5 =>
((gk_get h v1 2 3).bind gk_asR).bind fun x6 =>
gk_ca (f_Le_order x5 x6 h) fun x7 h1 =>
some (x7, h1))
else 
(((gk_get h v0 2 1).bind gk_asI).bind fun x8 =>
((gk_get h v1 2 1).bind gk_asI).bind fun x9 =>
some ((x8 - x9), h)))
else
(some ((v2 - s0), h))
def f_Op_order_b18  (v0 : Option Nat) (v1 : Option Nat) (s0 : Int32) (h : gk_H) : Option (Int32 × gk_H) :=
((gk_get h v1 2 0).bind gk_asI).bind fun x1 =>
if x1 = 0 then
(f_Op_order_b34 v0 v1 s0 s0 h)
else
(((gk_get h v1 2 0).bind gk_asI).bind fun x2 =>
f_Op_order_b34 v0 v1 s0 x2 h)
def f_Op_order (a0 : Option Nat) (a1 : Option Nat) (h : gk_H) : Option (Int32 × gk_H) :=
((gk_get h a0 2 0).bind gk_asI).bind fun x1 =>
if x1 = 0 then
(((gk_get h a1 2 0).bind gk_asI).bind fun x2 =>
f_Op_order_b18 a0 a1 x2 h)
else
(((gk_get h a0 2 0).bind gk_asI).bind fun x3 =>
f_Op_order_b18 a0 a1 x3 h)
def f_Op_stands_b95  (s0 : Int32) (h : gk_H) : Option (Int32 × gk_H) :=
if narrow .boolean (.int s0) = .int s0 then some (s0, h) else none
def f_Op_stands_b45  (s0 : Int32) (h : gk_H) : Option (Int32 × gk_H) :=
if narrow .boolean (.int s0) = .int s0 then some (s0, h) else none
def f_Op_stands_b55  (s0 : Int32) (h : gk_H) : Option (Int32 × gk_H) :=
if narrow .boolean (.int s0) = .int s0 then some (s0, h) else none
def f_Op_stands_b65  (s0 : Int32) (h : gk_H) : Option (Int32 × gk_H) :=
if narrow .boolean (.int s0) = .int s0 then some (s0, h) else none
def f_Op_stands_b75  (s0 : Int32) (h : gk_H) : Option (Int32 × gk_H) :=
if narrow .boolean (.int s0) = .int s0 then some (s0, h) else none
def f_Op_stands_b85  (s0 : Int32) (h : gk_H) : Option (Int32 × gk_H) :=
if narrow .boolean (.int s0) = .int s0 then some (s0, h) else none
def f_Op_stands (a0 : Int32) (a1 : Int32) (h : gk_H) : Option (Int32 × gk_H) :=
if a0 = (8 : Int32) then
(if a1 = 0 then
(f_Op_stands_b45 (1 : Int32) h)
else
(f_Op_stands_b45 (0 : Int32) h))
else if a0 = (9 : Int32) then
(if a1 = 0 then
(f_Op_stands_b55 (0 : Int32) h)
else
(f_Op_stands_b55 (1 : Int32) h))
else if a0 = (10 : Int32) then
(if 0 ≤ a1 then
(f_Op_stands_b65 (0 : Int32) h)
else
(f_Op_stands_b65 (1 : Int32) h))
else if a0 = (11 : Int32) then
(if a1 ≤ 0 then
(f_Op_stands_b75 (0 : Int32) h)
else
(f_Op_stands_b75 (1 : Int32) h))
else if a0 = (12 : Int32) then
(if 0 < a1 then
(f_Op_stands_b85 (0 : Int32) h)
else
(f_Op_stands_b85 (1 : Int32) h))
else 
(if a1 < 0 then
(f_Op_stands_b95 (0 : Int32) h)
else
(f_Op_stands_b95 (1 : Int32) h))
def f_Am_sizeOf_b13  (s0 : UInt64) (h : gk_H) : Option (UInt64 × gk_H) :=
some (s0, h)
def f_Am_sizeOf (a0 : UInt64) (h : gk_H) : Option (UInt64 × gk_H) :=
if 0 ≤ (Op.cmpValue (FP.dcmp a0 (0x0000000000000000)) .g) then
(f_Am_sizeOf_b13 a0 h)
else
(gk_dop (FP.dsub (0x0000000000000000) a0) fun x1 =>
f_Am_sizeOf_b13 x1 h)
def f_Am_powerOfSize_b48 (b8 : UInt64 → UInt64 → Int32 → gk_H → Option (UInt64 × gk_H)) (v3 : UInt64) (v5 : UInt64) (v7 : Int32) (h : gk_H) : Option (UInt64 × gk_H) :=
gk_ca (f_Va_isFinite v5 h) fun x1 h1 =>
if x1 = 0 then
(some (v5, h1))
else
(gk_let (v7 / (2 : Int32)) fun x2 =>
b8 v3 v5 x2 h1)
def f_Am_powerOfSize_b26 (b8 : UInt64 → UInt64 → Int32 → gk_H → Option (UInt64 × gk_H)) (v3 : UInt64) (v5 : UInt64) (v7 : Int32) (h : gk_H) : Option (UInt64 × gk_H) :=
gk_ca (f_Va_isFinite v3 h) fun x1 h1 =>
if x1 = 0 then
(some (v3, h1))
else
(if v7 ≤ (1 : Int32) then
(f_Am_powerOfSize_b48 b8 v3 v5 v7 h1)
else
(gk_dop (FP.dmul v5 v5) fun x2 =>
f_Am_powerOfSize_b48 b8 v3 x2 v7 h1))
def f_Am_powerOfSize_b8  : Nat → UInt64 → UInt64 → Int32 → gk_H → Option (UInt64 × gk_H)
  | 0 => fun _ _ _ _ => none
  | fu + 1 => fun v3 v5 v7 h =>
if v7 ≤ 0 then
(some (v3, h))
else
(if (v7 - v7 / (2 : Int32) * (2 : Int32)) = (1 : Int32) then
(gk_dop (FP.dmul v3 v5) fun x1 =>
f_Am_powerOfSize_b26 (f_Am_powerOfSize_b8 fu) x1 v5 v7 h)
else
(f_Am_powerOfSize_b26 (f_Am_powerOfSize_b8 fu) v3 v5 v7 h))
def f_Am_powerOfSize (a0 : UInt64) (a1 : Int32) (h : gk_H) : Option (UInt64 × gk_H) :=
f_Am_powerOfSize_b8 gk_F (0x3ff0000000000000) a0 a1 h
def f_Am_power_b25   (h : gk_H) : Option ((Option Nat) × gk_H) :=
gk_ca (f_Va_ofError (6 : Int32) h) fun x1 h1 =>
some (x1, h1)
def f_Am_power_b91   (h : gk_H) : Option ((Option Nat) × gk_H) :=
gk_ca (f_Va_ofError (6 : Int32) h) fun x1 h1 =>
some (x1, h1)
def f_Am_power_b112  (s0 : UInt64) (h : gk_H) : Option ((Option Nat) × gk_H) :=
gk_ca (f_Va_ofNumber s0 h) fun x1 h1 =>
some (x1, h1)
def f_Am_power_b97  (v2 : UInt64) (v4 : UInt64) (h : gk_H) : Option ((Option Nat) × gk_H) :=
if 0 ≤ (Op.cmpValue (FP.dcmp v2 (0x0000000000000000)) .g) then
(f_Am_power_b112 v4 h)
else
(gk_dop (FP.ddiv (0x3ff0000000000000) v4) fun x1 =>
f_Am_power_b112 x1 h)
def f_Am_power_b59  (v0 : UInt64) (v2 : UInt64) (h : gk_H) : Option ((Option Nat) × gk_H) :=
gk_ca (f_Am_sizeOf v2 h) fun x1 h1 =>
gk_ca (f_Am_powerOfSize v0 (FP.d2i x1) h1) fun x2 h2 =>
gk_ca (f_Va_isFinite x2 h2) fun x3 h3 =>
if x3 = 0 then
(f_Am_power_b91 h3)
else
(if 0 ≤ (Op.cmpValue (FP.dcmp v2 (0x0000000000000000)) .g) then
(f_Am_power_b97 v2 x2 h3)
else
(if (Op.cmpValue (FP.dcmp x2 (0x0000000000000000)) .l) = 0 then
(f_Am_power_b91 h3)
else
(f_Am_power_b97 v2 x2 h3)))
def f_Am_power_b55  (s0 : Int32) (h : gk_H) : Option ((Option Nat) × gk_H) :=
gk_ca (f_Va_ofError s0 h) fun x1 h1 =>
some (x1, h1)
def f_Am_power (a0 : UInt64) (a1 : UInt64) (h : gk_H) : Option ((Option Nat) × gk_H) :=
if (Op.cmpValue (FP.dcmp a1 (0xc08ff80000000000)) .g) < 0 then
(f_Am_power_b25 h)
else
(if 0 < (Op.cmpValue (FP.dcmp a1 (0x408ff80000000000)) .l) then
(f_Am_power_b25 h)
else
(gk_ca (f_Am_wholePart a1 h) fun x1 h1 =>
if (Op.cmpValue (FP.dcmp x1 a1) .l) = 0 then
(if (Op.cmpValue (FP.dcmp a0 (0x0000000000000000)) .l) = 0 then
(if 0 < (Op.cmpValue (FP.dcmp a1 (0x0000000000000000)) .g) then
(f_Am_power_b59 a0 a1 h1)
else
(if (Op.cmpValue (FP.dcmp a1 (0x0000000000000000)) .l) = 0 then
(f_Am_power_b55 (6 : Int32) h1)
else
(f_Am_power_b55 (2 : Int32) h1)))
else
(f_Am_power_b59 a0 a1 h1))
else
(f_Am_power_b25 h1)))
def f_Op_reckoned_b68  (s0 : Option Nat) (h : gk_H) : Option ((Option Nat) × gk_H) :=
some (s0, h)
def f_Op_reckoned (a0 : Int32) (a1 : UInt64) (a2 : UInt64) (h : gk_H) : Option ((Option Nat) × gk_H) :=
if a0 = (2 : Int32) then
(gk_ca (f_Am_power a1 a2 h) fun x1 h1 =>
some (x1, h1))
else if a0 = (3 : Int32) then
(gk_dop (FP.dmul a1 a2) fun x2 =>
gk_ca (f_Va_ofNumber x2 h) fun x3 h2 =>
some (x3, h2))
else if a0 = (4 : Int32) then
(if (Op.cmpValue (FP.dcmp a2 (0x0000000000000000)) .l) = 0 then
(gk_ca (f_Va_ofError (2 : Int32) h) fun x4 h3 =>
f_Op_reckoned_b68 x4 h3)
else
(gk_dop (FP.ddiv a1 a2) fun x5 =>
gk_ca (f_Va_ofNumber x5 h) fun x6 h4 =>
f_Op_reckoned_b68 x6 h4))
else if a0 = (5 : Int32) then
(gk_dop (FP.dadd a1 a2) fun x7 =>
gk_ca (f_Va_ofNumber x7 h) fun x8 h5 =>
some (x8, h5))
else if a0 = (6 : Int32) then
(gk_dop (FP.dsub a1 a2) fun x9 =>
gk_ca (f_Va_ofNumber x9 h) fun x10 h6 =>
some (x10, h6))
else 
(gk_ca (f_Va_ofError (3 : Int32) h) fun x11 h7 =>
some (x11, h7))
def f_Op_answer_b28  (s0 : UInt64) (h : gk_H) : Option ((Option Nat) × gk_H) :=
gk_ca (f_Va_ofNumber s0 h) fun x1 h1 =>
some (x1, h1)
def f_Op_answer (a0 : Int32) (a1 : Option Nat) (h : gk_H) : Option ((Option Nat) × gk_H) :=
gk_ca (f_Op_takesOne a0 h) fun x1 h1 =>
if x1 = 0 then
(if a0 = (7 : Int32) then
(gk_cv h1 a1 4 (f_Ar_lettersOf a1 (0 : Int32) h1) fun x2 h2 =>
gk_cv h2 a1 4 (f_Ar_lettersOf a1 (1 : Int32) h2) fun x3 h3 =>
gk_ca (f_Op_joined x2 x3 h3) fun x4 h4 =>
some (x4, h4))
else
(if a0 ≤ (7 : Int32) then
(gk_cv h1 a1 4 (f_Ar_amount a1 (0 : Int32) h1) fun x5 h5 =>
gk_cv h5 a1 4 (f_Ar_amount a1 (1 : Int32) h5) fun x6 h6 =>
gk_ca (f_Op_reckoned a0 x5 x6 h6) fun x7 h7 =>
some (x7, h7))
else
(gk_cv h1 a1 4 (f_Ar_sound a1 (0 : Int32) h1) fun x8 h8 =>
gk_cv h8 a1 4 (f_Ar_sound a1 (1 : Int32) h8) fun x9 h9 =>
gk_ca (f_Op_order x8 x9 h9) fun x10 h10 =>
gk_ca (f_Op_stands a0 x10 h10) fun x11 h11 =>
gk_ca (f_Va_ofTruth x11 h11) fun x12 h12 =>
some (x12, h12))))
else
(gk_cv h1 a1 4 (f_Ar_amount a1 (0 : Int32) h1) fun x13 h13 =>
if a0 = 0 then
(gk_dop (FP.dsub (0x0000000000000000) x13) fun x14 =>
f_Op_answer_b28 x14 h13)
else
(gk_dop (FP.ddiv x13 (0x4059000000000000)) fun x15 =>
f_Op_answer_b28 x15 h13))
def f_Ar_faultOr_b18  (s0 : Option Nat) (h : gk_H) : Option ((Option Nat) × gk_H) :=
some (s0, h)
def f_Ar_faultOr (a0 : Option Nat) (a1 : Option Nat) (h : gk_H) : Option ((Option Nat) × gk_H) :=
((gk_get h a0 4 3).bind gk_asI).bind fun x1 =>
if x1 = 0 then
(f_Ar_faultOr_b18 a1 h)
else
(((gk_get h a0 4 3).bind gk_asI).bind fun x2 =>
gk_ca (f_Va_ofError x2 h) fun x3 h1 =>
f_Ar_faultOr_b18 x3 h1)
def f_A_operate_b10   (h : gk_H) : Option ((Sum (Unit) String) × gk_H) :=
some (.inr "java/lang/IllegalArgumentException", gk_thrown h)
def f_A_operate_b32  (v0 : Option Nat) (v1 : Int32) (s0 : Int32) (h : gk_H) : Option ((Sum (Unit) String) × gk_H) :=
((gk_get h v0 5 1).bind gk_asI).bind fun x1 =>
if s0 ≤ x1 then
(((gk_get h v0 5 3).bind gk_asR).bind fun x2 =>
((gk_get h v0 5 0).bind gk_asR).bind fun x3 =>
((gk_get h v0 5 1).bind gk_asI).bind fun x4 =>
gk_cv h x2 4 (f_Ar_take x2 x3 (x4 - s0) s0 h) fun _ h1 =>
((gk_get h1 v0 5 3).bind gk_asR).bind fun x5 =>
gk_ca (f_Op_answer v1 x5 h1) fun x6 h2 =>
((gk_get h2 v0 5 3).bind gk_asR).bind fun x7 =>
gk_cv h2 x7 4 (f_Ar_faultOr x7 x6 h2) fun x8 h3 =>
gk_cx h3 v0 5 (f_A_replaceUpper v0 s0 x8 h3) (fun _ h4 =>
some (.inl (), h4)) Sum.inr)
else
(some (.inr "java/lang/IllegalArgumentException", gk_thrown h))
def f_A_operate (a0 : Option Nat) (a1 : Int32) (h : gk_H) : Option ((Sum (Unit) String) × gk_H) :=
if a1 < 0 then
(f_A_operate_b10 h)
else
(if a1 ≤ (13 : Int32) then
(gk_ca (f_Op_takesOne a1 h) fun x1 h1 =>
if x1 = 0 then
(f_A_operate_b32 a0 a1 (2 : Int32) h1)
else
(f_A_operate_b32 a0 a1 (1 : Int32) h1))
else
(f_A_operate_b10 h))
def f_Ar_raw_b25  (s0 : Option Nat) (h : gk_H) : Option ((Option Nat) × gk_H) :=
some (s0, h)
def f_Ar_raw_b21  (v0 : Option Nat) (h : gk_H) : Option ((Option Nat) × gk_H) :=
((gk_get h v0 4 6).bind gk_asR).bind fun x1 =>
f_Ar_raw_b25 x1 h
def f_Ar_raw (a0 : Option Nat) (a1 : Int32) (h : gk_H) : Option ((Option Nat) × gk_H) :=
if a1 < 0 then
(f_Ar_raw_b21 a0 h)
else
(((gk_get h a0 4 2).bind gk_asI).bind fun x1 =>
if x1 ≤ a1 then
(f_Ar_raw_b21 a0 h)
else
(((gk_get h a0 4 0).bind gk_asR).bind fun x2 =>
((gk_ald h x2 7 a1).bind gk_asR).bind fun x3 =>
f_Ar_raw_b25 x3 h))
def f_Cr_relationOf_b87  (s0 : Int32) (h : gk_H) : Option (Int32 × gk_H) :=
some (s0, h)
def f_Cr_relationOf_b67  (s0 : Int32) (h : gk_H) : Option (Int32 × gk_H) :=
some (s0, h)
def f_Cr_relationOf_b36  (v1 : Int32) (s0 : Int32) (h : gk_H) : Option (Int32 × gk_H) :=
if v1 = (60 : Int32) then
(if s0 = (62 : Int32) then
(f_Cr_relationOf_b67 (9 : Int32) h)
else
(if s0 = (61 : Int32) then
(f_Cr_relationOf_b67 (12 : Int32) h)
else
(f_Cr_relationOf_b67 (10 : Int32) h)))
else
(if v1 = (62 : Int32) then
(if s0 = (61 : Int32) then
(f_Cr_relationOf_b87 (13 : Int32) h)
else
(f_Cr_relationOf_b87 (11 : Int32) h))
else
(some ((8 : Int32), h)))
def f_Cr_relationOf_b17  (v0 : Option Nat) (s0 : Int32) (h : gk_H) : Option (Int32 × gk_H) :=
gk_cv h v0 0 (f_St_length v0 h) fun x1 h1 =>
if (2 : Int32) ≤ x1 then
(gk_cv h1 v0 0 (f_St_charAt v0 (1 : Int32) h1) fun x2 h2 =>
f_Cr_relationOf_b36 s0 x2 h2)
else
(f_Cr_relationOf_b36 s0 (32 : Int32) h1)
def f_Cr_relationOf (a0 : Option Nat) (h : gk_H) : Option (Int32 × gk_H) :=
gk_cv h a0 0 (f_St_isEmpty a0 h) fun x1 h1 =>
if x1 = 0 then
(gk_cv h1 a0 0 (f_St_charAt a0 (0 : Int32) h1) fun x2 h2 =>
f_Cr_relationOf_b17 a0 x2 h2)
else
(f_Cr_relationOf_b17 a0 (32 : Int32) h1)
def f_Cr_signLength_b66  (s0 : Int32) (h : gk_H) : Option (Int32 × gk_H) :=
some (s0, h)
def f_Cr_signLength_b65   (h : gk_H) : Option (Int32 × gk_H) :=
f_Cr_signLength_b66 (0 : Int32) h
def f_Cr_signLength_b40   (h : gk_H) : Option (Int32 × gk_H) :=
some ((2 : Int32), h)
def f_Cr_signLength_b42   (h : gk_H) : Option (Int32 × gk_H) :=
some ((1 : Int32), h)
def f_Cr_signLength (a0 : Option Nat) (h : gk_H) : Option (Int32 × gk_H) :=
gk_ca (f_Cr_relationOf a0 h) fun x1 h1 =>
if x1 = (9 : Int32) then
(f_Cr_signLength_b40 h1)
else if x1 = (10 : Int32) then
(f_Cr_signLength_b42 h1)
else if x1 = (11 : Int32) then
(f_Cr_signLength_b42 h1)
else if x1 = (12 : Int32) then
(f_Cr_signLength_b40 h1)
else if x1 = (13 : Int32) then
(f_Cr_signLength_b40 h1)
else 
(gk_cv h1 a0 0 (f_St_isEmpty a0 h1) fun x2 h2 =>
if x2 = 0 then
(gk_cv h2 a0 0 (f_St_charAt a0 (0 : Int32) h2) fun x3 h3 =>
if x3 = (61 : Int32) then
(f_Cr_signLength_b66 (1 : Int32) h3)
else
(f_Cr_signLength_b65 h3))
else
(f_Cr_signLength_b65 h2))
def f_Cr_wantedOf_b58  (s0 : Option Nat) (h : gk_H) : Option ((Option Nat) × gk_H) :=
some (s0, h)
def f_Cr_wantedOf (a0 : Option Nat) (h : gk_H) : Option ((Option Nat) × gk_H) :=
((gk_get h a0 2 0).bind gk_asI).bind fun x1 =>
if x1 = 0 then
(gk_ca (f_Va_ofNumber (0x0000000000000000) h) fun x2 h1 =>
some (x2, h1))
else
(((gk_get h a0 2 0).bind gk_asI).bind fun x3 =>
if x3 = (2 : Int32) then
(((gk_get h a0 2 3).bind gk_asR).bind fun x4 =>
((gk_get h a0 2 3).bind gk_asR).bind fun x5 =>
gk_ca (f_Cr_signLength x5 h) fun x6 h2 =>
gk_cv h2 x4 0 (f_St_substring_I x4 x6 h2) fun x7 h3 =>
gk_ca (f_Le_isNumeral x7 h3) fun x8 h4 =>
if x8 = 0 then
(gk_ca (f_Va_ofText x7 h4) fun x9 h5 =>
f_Cr_wantedOf_b58 x9 h5)
else
(gk_ca (f_Le_numeral x7 h4) fun x10 h6 =>
gk_ca (f_Va_ofNumber x10 h6) fun x11 h7 =>
f_Cr_wantedOf_b58 x11 h7))
else
(some (a0, h)))
def f_Li_prepare_b151   (h : gk_H) : Option (Unit × gk_H) :=
some ((), h)
def f_Li_prepare_b138 (b7 : Option Nat → Option Nat → Int32 → gk_H → Option (Unit × gk_H)) (v0 : Option Nat) (v1 : Option Nat) (v2 : Int32) (h : gk_H) : Option (Unit × gk_H) :=
((gk_get h v0 3 1).bind gk_asI).bind fun x1 =>
(gk_set h v0 3 1 (.int (x1 + (1 : Int32)))).bind fun h1 =>
b7 v0 v1 v2 h1
def f_Li_prepare_b134 (b7 : Option Nat → Option Nat → Int32 → gk_H → Option (Unit × gk_H)) (v0 : Option Nat) (v1 : Option Nat) (v2 : Int32) (s0 : Option Nat) (s1 : Int32) (s2 : Int32) (h : gk_H) : Option (Unit × gk_H) :=
(gk_ast h s0 1 s1 (.int s2)).bind fun h1 =>
gk_let (v2 + (1 : Int32)) fun x1 =>
f_Li_prepare_b138 b7 v0 v1 x1 h1
def f_Li_prepare_b101 (b7 : Option Nat → Option Nat → Int32 → gk_H → Option (Unit × gk_H)) (v0 : Option Nat) (v1 : Option Nat) (v2 : Int32) (v3 : Int32) (h : gk_H) : Option (Unit × gk_H) :=
((gk_get h v0 3 0).bind gk_asR).bind fun x1 =>
((gk_get h v0 3 1).bind gk_asI).bind fun x2 =>
if v3 = (63 : Int32) then
(f_Li_prepare_b134 b7 v0 v1 v2 x1 x2 (-1 : Int32) h)
else
(if v3 = (42 : Int32) then
(f_Li_prepare_b134 b7 v0 v1 v2 x1 x2 (-2 : Int32) h)
else
(gk_ca (f_Le_great v3 h) fun x3 h1 =>
f_Li_prepare_b134 b7 v0 v1 v2 x1 x2 x3 h1))
def f_Li_prepare_b84 (b7 : Option Nat → Option Nat → Int32 → gk_H → Option (Unit × gk_H)) (v0 : Option Nat) (v1 : Option Nat) (v2 : Int32) (v4 : Int32) (h : gk_H) : Option (Unit × gk_H) :=
((gk_get h v0 3 0).bind gk_asR).bind fun x1 =>
((gk_get h v0 3 1).bind gk_asI).bind fun x2 =>
(gk_ast h x1 1 x2 (.int v4)).bind fun h1 =>
gk_let (v2 + (2 : Int32)) fun x3 =>
f_Li_prepare_b138 b7 v0 v1 x3 h1
def f_Li_prepare_b55 (b7 : Option Nat → Option Nat → Int32 → gk_H → Option (Unit × gk_H)) (v0 : Option Nat) (v1 : Option Nat) (v2 : Int32) (v3 : Int32) (s0 : Int32) (h : gk_H) : Option (Unit × gk_H) :=
if v3 = (126 : Int32) then
(if s0 = (63 : Int32) then
(f_Li_prepare_b84 b7 v0 v1 v2 s0 h)
else
(if s0 = (42 : Int32) then
(f_Li_prepare_b84 b7 v0 v1 v2 s0 h)
else
(if s0 = (126 : Int32) then
(f_Li_prepare_b84 b7 v0 v1 v2 s0 h)
else
(f_Li_prepare_b101 b7 v0 v1 v2 v3 h))))
else
(f_Li_prepare_b101 b7 v0 v1 v2 v3 h)
def f_Li_prepare_b7  : Nat → Option Nat → Option Nat → Int32 → gk_H → Option (Unit × gk_H)
  | 0 => fun _ _ _ _ => none
  | fu + 1 => fun v0 v1 v2 h =>
gk_cv h v1 0 (f_St_length v1 h) fun x1 h1 =>
if x1 ≤ v2 then
(f_Li_prepare_b151 h1)
else
(((gk_get h1 v0 3 1).bind gk_asI).bind fun x2 =>
((gk_get h1 v0 3 0).bind gk_asR).bind fun x3 =>
(gk_len h1 x3).bind fun x4 =>
if x4 ≤ x2 then
(f_Li_prepare_b151 h1)
else
(gk_cv h1 v1 0 (f_St_charAt v1 v2 h1) fun x5 h2 =>
gk_cv h2 v1 0 (f_St_length v1 h2) fun x6 h3 =>
if x6 ≤ (v2 + (1 : Int32)) then
(f_Li_prepare_b55 (f_Li_prepare_b7 fu) v0 v1 v2 x5 (32 : Int32) h3)
else
(gk_cv h3 v1 0 (f_St_charAt v1 (v2 + (1 : Int32)) h3) fun x7 h4 =>
f_Li_prepare_b55 (f_Li_prepare_b7 fu) v0 v1 v2 x5 x7 h4)))
def f_Li_prepare (a0 : Option Nat) (a1 : Option Nat) (h : gk_H) : Option (Unit × gk_H) :=
(gk_set h a0 3 1 (.int (0 : Int32))).bind fun h1 =>
f_Li_prepare_b7 gk_F a0 a1 (0 : Int32) h1
def f_Cr_init (a0 : Option Nat) (a1 : Int32) (a2 : Option Nat) (a3 : Option Nat) (h : gk_H) : Option (Unit × gk_H) :=
a0.bind fun _ =>
(gk_set h a0 6 0 (.int a1)).bind fun h1 =>
(gk_set h1 a0 6 1 (va_rf a2)).bind fun h2 =>
(gk_set h2 a0 6 2 (va_rf a3)).bind fun h3 =>
some ((), h3)
def f_Cr_of (a0 : Option Nat) (a1 : Option Nat) (h : gk_H) : Option ((Option Nat) × gk_H) :=
gk_ca (f_Cr_wantedOf a0 h) fun x1 h1 =>
((gk_get h1 x1 2 3).bind gk_asR).bind fun x2 =>
gk_cv h1 a1 3 (f_Li_prepare a1 x2 h1) fun _ h2 =>
gk_nw h2 6 3 fun x3 h3 =>
((gk_get h3 a0 2 3).bind gk_asR).bind fun x4 =>
gk_ca (f_Cr_relationOf x4 h3) fun x5 h4 =>
gk_cv h4 x3 6 (f_Cr_init x3 x5 x1 a1 h4) fun _ h5 =>
some (x3, h5)
def f_Ar_howMany (a0 : Option Nat) (h : gk_H) : Option (Int32 × gk_H) :=
((gk_get h a0 4 2).bind gk_asI).bind fun x1 =>
some (x1, h)
def f_Va_isOfShape_b27  (s0 : Int32) (h : gk_H) : Option (Int32 × gk_H) :=
if narrow .boolean (.int s0) = .int s0 then some (s0, h) else none
def f_Va_isOfShape_b26   (h : gk_H) : Option (Int32 × gk_H) :=
f_Va_isOfShape_b27 (0 : Int32) h
def f_Va_isOfShape (a0 : Option Nat) (a1 : Option Nat) (h : gk_H) : Option (Int32 × gk_H) :=
((gk_get h a0 2 4).bind gk_asI).bind fun x1 =>
((gk_get h a1 2 4).bind gk_asI).bind fun x2 =>
if x1 = x2 then
(((gk_get h a0 2 5).bind gk_asI).bind fun x3 =>
((gk_get h a1 2 5).bind gk_asI).bind fun x4 =>
if x3 = x4 then
(f_Va_isOfShape_b27 (1 : Int32) h)
else
(f_Va_isOfShape_b26 h))
else
(f_Va_isOfShape_b26 h)
def f_Cr_isBothEmpty_b25  (s0 : Int32) (h : gk_H) : Option (Int32 × gk_H) :=
if narrow .boolean (.int s0) = .int s0 then some (s0, h) else none
def f_Cr_isBothEmpty_b24   (h : gk_H) : Option (Int32 × gk_H) :=
f_Cr_isBothEmpty_b25 (0 : Int32) h
def f_Cr_isBothEmpty (a0 : Option Nat) (a1 : Option Nat) (h : gk_H) : Option (Int32 × gk_H) :=
((gk_get h a1 2 0).bind gk_asI).bind fun x1 =>
if x1 = 0 then
(((gk_get h a0 6 1).bind gk_asR).bind fun x2 =>
((gk_get h x2 2 3).bind gk_asR).bind fun x3 =>
gk_cv h x3 0 (f_St_isEmpty x3 h) fun x4 h1 =>
if x4 = 0 then
(f_Cr_isBothEmpty_b24 h1)
else
(f_Cr_isBothEmpty_b25 (1 : Int32) h1))
else
(f_Cr_isBothEmpty_b24 h)
def f_Li_stepOverMany_b38 (b4 : Option Nat → Int32 → gk_H → Option (Unit × gk_H)) (v0 : Option Nat) (v2 : Int32) (s0 : Option Nat) (s1 : Int32) (s2 : Int32) (h : gk_H) : Option (Unit × gk_H) :=
(gk_ast h s0 4 s1 (.int s2)).bind fun h1 =>
gk_let (v2 + (-1 : Int32)) fun x1 =>
b4 v0 x1 h1
def f_Li_stepOverMany_b33 (b4 : Option Nat → Int32 → gk_H → Option (Unit × gk_H)) (v0 : Option Nat) (v2 : Int32) (s0 : Option Nat) (s1 : Int32) (h : gk_H) : Option (Unit × gk_H) :=
f_Li_stepOverMany_b38 b4 v0 v2 s0 s1 (1 : Int32) h
def f_Li_stepOverMany_b4  : Nat → Option Nat → Int32 → gk_H → Option (Unit × gk_H)
  | 0 => fun _ _ _ => none
  | fu + 1 => fun v0 v2 h =>
if v2 < 0 then
(some ((), h))
else
(((gk_get h v0 3 3).bind gk_asR).bind fun x1 =>
((gk_get h v0 3 3).bind gk_asR).bind fun x2 =>
((gk_ald h x2 4 v2).bind gk_asI).bind fun x3 =>
if x3 = 0 then
(((gk_get h v0 3 3).bind gk_asR).bind fun x4 =>
((gk_ald h x4 4 (v2 + (1 : Int32))).bind gk_asI).bind fun x5 =>
if x5 = 0 then
(f_Li_stepOverMany_b38 (f_Li_stepOverMany_b4 fu) v0 v2 x1 v2 (0 : Int32) h)
else
(f_Li_stepOverMany_b33 (f_Li_stepOverMany_b4 fu) v0 v2 x1 v2 h))
else
(f_Li_stepOverMany_b33 (f_Li_stepOverMany_b4 fu) v0 v2 x1 v2 h))
def f_Li_stepOverMany (a0 : Option Nat) (a1 : Int32) (h : gk_H) : Option (Unit × gk_H) :=
gk_let (a1 - (1 : Int32)) fun x1 =>
f_Li_stepOverMany_b4 gk_F a0 x1 h
def f_Li_stepOverOne_b55 (b2 : Option Nat → Int32 → Int32 → Int32 → gk_H → Option (Unit × gk_H)) (v0 : Option Nat) (v1 : Int32) (v2 : Int32) (v3 : Int32) (s0 : Option Nat) (s1 : Int32) (s2 : Int32) (h : gk_H) : Option (Unit × gk_H) :=
(gk_ast h s0 4 s1 (.int s2)).bind fun h1 =>
gk_let (v3 + (1 : Int32)) fun x1 =>
b2 v0 v1 v2 x1 h1
def f_Li_stepOverOne_b54 (b2 : Option Nat → Int32 → Int32 → Int32 → gk_H → Option (Unit × gk_H)) (v0 : Option Nat) (v1 : Int32) (v2 : Int32) (v3 : Int32) (s0 : Option Nat) (s1 : Int32) (h : gk_H) : Option (Unit × gk_H) :=
f_Li_stepOverOne_b55 b2 v0 v1 v2 v3 s0 s1 (0 : Int32) h
def f_Li_stepOverOne_b27 (b2 : Option Nat → Int32 → Int32 → Int32 → gk_H → Option (Unit × gk_H)) (v0 : Option Nat) (v1 : Int32) (v2 : Int32) (v3 : Int32) (s0 : Int32) (h : gk_H) : Option (Unit × gk_H) :=
((gk_get h v0 3 3).bind gk_asR).bind fun x1 =>
if s0 = 0 then
(f_Li_stepOverOne_b54 b2 v0 v1 v2 v3 x1 v3 h)
else
(((gk_get h v0 3 3).bind gk_asR).bind fun x2 =>
((gk_ald h x2 4 (v3 + (1 : Int32))).bind gk_asI).bind fun x3 =>
if x3 = 0 then
(f_Li_stepOverOne_b54 b2 v0 v1 v2 v3 x1 v3 h)
else
(f_Li_stepOverOne_b55 b2 v0 v1 v2 v3 x1 v3 (1 : Int32) h))
def f_Li_stepOverOne_b22 (b2 : Option Nat → Int32 → Int32 → Int32 → gk_H → Option (Unit × gk_H)) (v0 : Option Nat) (v1 : Int32) (v2 : Int32) (v3 : Int32) (h : gk_H) : Option (Unit × gk_H) :=
f_Li_stepOverOne_b27 b2 v0 v1 v2 v3 (1 : Int32) h
def f_Li_stepOverOne_b2  : Nat → Option Nat → Int32 → Int32 → Int32 → gk_H → Option (Unit × gk_H)
  | 0 => fun _ _ _ _ _ => none
  | fu + 1 => fun v0 v1 v2 v3 h =>
if v1 ≤ v3 then
(((gk_get h v0 3 3).bind gk_asR).bind fun x1 =>
(gk_ast h x1 4 v1 (.int (0 : Int32))).bind fun h1 =>
some ((), h1))
else
(if v2 = (-1 : Int32) then
(f_Li_stepOverOne_b22 (f_Li_stepOverOne_b2 fu) v0 v1 v2 v3 h)
else
(((gk_get h v0 3 2).bind gk_asR).bind fun x2 =>
((gk_ald h x2 5 v3).bind gk_asI).bind fun x3 =>
if v2 = x3 then
(f_Li_stepOverOne_b22 (f_Li_stepOverOne_b2 fu) v0 v1 v2 v3 h)
else
(f_Li_stepOverOne_b27 (f_Li_stepOverOne_b2 fu) v0 v1 v2 v3 (0 : Int32) h)))
def f_Li_stepOverOne (a0 : Option Nat) (a1 : Int32) (a2 : Int32) (h : gk_H) : Option (Unit × gk_H) :=
f_Li_stepOverOne_b2 gk_F a0 a1 a2 (0 : Int32) h
def f_Li_look_b124 (b87 : Option Nat → Int32 → Int32 → gk_H → Option (Unit × gk_H)) (v0 : Option Nat) (v3 : Int32) (v4 : Int32) (h : gk_H) : Option (Unit × gk_H) :=
gk_let (v4 + (-1 : Int32)) fun x1 =>
b87 v0 v3 x1 h
def f_Li_look_b87  : Nat → Option Nat → Int32 → Int32 → gk_H → Option (Unit × gk_H)
  | 0 => fun _ _ _ _ => none
  | fu + 1 => fun v0 v3 v4 h =>
if v4 < 0 then
(some ((), h))
else
(((gk_get h v0 3 0).bind gk_asR).bind fun x1 =>
((gk_ald h x1 1 v4).bind gk_asI).bind fun x2 =>
if x2 = (-2 : Int32) then
(gk_cv h v0 3 (f_Li_stepOverMany v0 v3 h) fun _ h1 =>
f_Li_look_b124 (f_Li_look_b87 fu) v0 v3 v4 h1)
else
(((gk_get h v0 3 0).bind gk_asR).bind fun x3 =>
((gk_ald h x3 1 v4).bind gk_asI).bind fun x4 =>
gk_cv h v0 3 (f_Li_stepOverOne v0 v3 x4 h) fun _ h2 =>
f_Li_look_b124 (f_Li_look_b87 fu) v0 v3 v4 h2))
def f_Li_look_b51  : Nat → Option Nat → Option Nat → Int32 → Int32 → gk_H → Option (Unit × gk_H)
  | 0 => fun _ _ _ _ _ => none
  | fu + 1 => fun v0 v1 v3 v4 h =>
if v3 ≤ v4 then
(((gk_get h v0 3 1).bind gk_asI).bind fun x1 =>
gk_let (x1 - (1 : Int32)) fun x2 =>
f_Li_look_b87 gk_F v0 v3 x2 h)
else
(((gk_get h v0 3 2).bind gk_asR).bind fun x3 =>
gk_cv h v1 0 (f_St_charAt v1 v4 h) fun x4 h1 =>
gk_ca (f_Le_great x4 h1) fun x5 h2 =>
(gk_ast h2 x3 5 v4 (.int x5)).bind fun h3 =>
gk_let (v4 + (1 : Int32)) fun x6 =>
(f_Li_look_b51 fu) v0 v1 v3 x6 h3)
def f_Li_look_b41 (b14 : Option Nat → Option Nat → Int32 → Int32 → Int32 → gk_H → Option (Unit × gk_H)) (v0 : Option Nat) (v1 : Option Nat) (v2 : Int32) (v3 : Int32) (v4 : Int32) (s0 : Option Nat) (s1 : Int32) (s2 : Int32) (h : gk_H) : Option (Unit × gk_H) :=
(gk_ast h s0 4 s1 (.int s2)).bind fun h1 =>
gk_let (v4 + (1 : Int32)) fun x1 =>
b14 v0 v1 v2 v3 x1 h1
def f_Li_look_b36 (b14 : Option Nat → Option Nat → Int32 → Int32 → Int32 → gk_H → Option (Unit × gk_H)) (v0 : Option Nat) (v1 : Option Nat) (v2 : Int32) (v3 : Int32) (v4 : Int32) (s0 : Option Nat) (s1 : Int32) (h : gk_H) : Option (Unit × gk_H) :=
f_Li_look_b41 b14 v0 v1 v2 v3 v4 s0 s1 (1 : Int32) h
def f_Li_look_b14  : Nat → Option Nat → Option Nat → Int32 → Int32 → Int32 → gk_H → Option (Unit × gk_H)
  | 0 => fun _ _ _ _ _ _ => none
  | fu + 1 => fun v0 v1 v2 v3 v4 h =>
if v3 < v4 then
(f_Li_look_b51 gk_F v0 v1 v3 (0 : Int32) h)
else
(((gk_get h v0 3 3).bind gk_asR).bind fun x1 =>
if v2 = 0 then
(if v4 = v3 then
(f_Li_look_b36 (f_Li_look_b14 fu) v0 v1 v2 v3 v4 x1 v4 h)
else
(f_Li_look_b41 (f_Li_look_b14 fu) v0 v1 v2 v3 v4 x1 v4 (0 : Int32) h))
else
(f_Li_look_b36 (f_Li_look_b14 fu) v0 v1 v2 v3 v4 x1 v4 h))
def f_Li_look (a0 : Option Nat) (a1 : Option Nat) (a2 : Int32) (h : gk_H) : Option (Unit × gk_H) :=
gk_cv h a1 0 (f_St_length a1 h) fun x1 h1 =>
gk_ca (f_Ma_min_II x1 (255 : Int32) h1) fun x2 h2 =>
f_Li_look_b14 gk_F a0 a1 a2 x2 (0 : Int32) h2
def f_Li_isMetBy (a0 : Option Nat) (a1 : Option Nat) (h : gk_H) : Option (Int32 × gk_H) :=
gk_cv h a0 3 (f_Li_look a0 a1 (0 : Int32) h) fun _ h1 =>
((gk_get h1 a0 3 3).bind gk_asR).bind fun x1 =>
((gk_ald h1 x1 4 (0 : Int32)).bind gk_asI).bind fun x2 =>
if narrow .boolean (.int x2) = .int x2 then some (x2, h1) else none
def f_Cr_isMetBy_b19   (h : gk_H) : Option (Int32 × gk_H) :=
if narrow .boolean (.int (0 : Int32)) = .int (0 : Int32) then some ((0 : Int32), h) else none
def f_Cr_isMetBy_b134  (s0 : Int32) (h : gk_H) : Option (Int32 × gk_H) :=
if narrow .boolean (.int s0) = .int s0 then some (s0, h) else none
def f_Cr_isMetBy_b126  (s0 : Int32) (s1 : Int32) (h : gk_H) : Option (Int32 × gk_H) :=
if s0 = s1 then
(f_Cr_isMetBy_b134 (1 : Int32) h)
else
(f_Cr_isMetBy_b134 (0 : Int32) h)
def f_Cr_isMetBy_b96  (s0 : Int32) (h : gk_H) : Option (Int32 × gk_H) :=
if narrow .boolean (.int s0) = .int s0 then some (s0, h) else none
def f_Cr_isMetBy_b91   (h : gk_H) : Option (Int32 × gk_H) :=
f_Cr_isMetBy_b96 (1 : Int32) h
def f_Cr_isMetBy_b95   (h : gk_H) : Option (Int32 × gk_H) :=
f_Cr_isMetBy_b96 (0 : Int32) h
def f_Cr_isMetBy_b55  (v0 : Option Nat) (v1 : Option Nat) (s0 : Int32) (h : gk_H) : Option (Int32 × gk_H) :=
((gk_get h v1 2 0).bind gk_asI).bind fun x1 =>
((gk_get h v0 6 1).bind gk_asR).bind fun x2 =>
((gk_get h x2 2 0).bind gk_asI).bind fun x3 =>
if x1 = x3 then
(if s0 = 0 then
(((gk_get h v0 6 0).bind gk_asI).bind fun x4 =>
((gk_get h v0 6 1).bind gk_asR).bind fun x5 =>
gk_ca (f_Op_order v1 x5 h) fun x6 h1 =>
gk_ca (f_Op_stands x4 x6 h1) fun x7 h2 =>
if narrow .boolean (.int x7) = .int x7 then some (x7, h2) else none)
else
(((gk_get h v0 6 2).bind gk_asR).bind fun x8 =>
((gk_get h v1 2 3).bind gk_asR).bind fun x9 =>
gk_cv h x8 3 (f_Li_isMetBy x8 x9 h) fun x10 h3 =>
((gk_get h3 v0 6 0).bind gk_asI).bind fun x11 =>
if x11 = (8 : Int32) then
(f_Cr_isMetBy_b126 x10 (1 : Int32) h3)
else
(f_Cr_isMetBy_b126 x10 (0 : Int32) h3)))
else
(((gk_get h v0 6 0).bind gk_asI).bind fun x12 =>
if x12 = (9 : Int32) then
(f_Cr_isMetBy_b91 h)
else
(if s0 = 0 then
(f_Cr_isMetBy_b95 h)
else
(gk_cv h v0 6 (f_Cr_isBothEmpty v0 v1 h) fun x13 h4 =>
if x13 = 0 then
(f_Cr_isMetBy_b95 h4)
else
(f_Cr_isMetBy_b91 h4))))
def f_Cr_isMetBy_b54  (v0 : Option Nat) (v1 : Option Nat) (h : gk_H) : Option (Int32 × gk_H) :=
f_Cr_isMetBy_b55 v0 v1 (0 : Int32) h
def f_Cr_isMetBy_b50  (v0 : Option Nat) (v1 : Option Nat) (h : gk_H) : Option (Int32 × gk_H) :=
f_Cr_isMetBy_b55 v0 v1 (1 : Int32) h
def f_Cr_isMetBy (a0 : Option Nat) (a1 : Option Nat) (h : gk_H) : Option (Int32 × gk_H) :=
((gk_get h a1 2 0).bind gk_asI).bind fun x1 =>
if x1 = (4 : Int32) then
(f_Cr_isMetBy_b19 h)
else
(((gk_get h a0 6 1).bind gk_asR).bind fun x2 =>
((gk_get h x2 2 0).bind gk_asI).bind fun x3 =>
if x3 = (4 : Int32) then
(f_Cr_isMetBy_b19 h)
else
(((gk_get h a0 6 1).bind gk_asR).bind fun x4 =>
((gk_get h x4 2 0).bind gk_asI).bind fun x5 =>
if x5 = (2 : Int32) then
(((gk_get h a0 6 0).bind gk_asI).bind fun x6 =>
if x6 = (8 : Int32) then
(f_Cr_isMetBy_b50 a0 a1 h)
else
(((gk_get h a0 6 0).bind gk_asI).bind fun x7 =>
if x7 = (9 : Int32) then
(f_Cr_isMetBy_b50 a0 a1 h)
else
(f_Cr_isMetBy_b54 a0 a1 h)))
else
(f_Cr_isMetBy_b54 a0 a1 h)))
def f_Su_ofThoseMeeting_b198  (s0 : Option Nat) (h : gk_H) : Option ((Option Nat) × gk_H) :=
some (s0, h)
def f_Su_ofThoseMeeting_b152  (v0 : Int32) (v5 : Int32) (v6 : Int32) (v7 : UInt64) (h : gk_H) : Option ((Option Nat) × gk_H) :=
if v0 = (16 : Int32) then
(gk_ca (f_Va_ofNumber (FP.i2d v5) h) fun x1 h1 =>
some (x1, h1))
else
(if v0 = (17 : Int32) then
(gk_ca (f_Va_ofNumber v7 h) fun x2 h2 =>
some (x2, h2))
else
(if v6 = 0 then
(gk_ca (f_Va_ofError (2 : Int32) h) fun x3 h3 =>
f_Su_ofThoseMeeting_b198 x3 h3)
else
(gk_dop (FP.ddiv v7 (FP.i2d v6)) fun x4 =>
gk_ca (f_Va_ofNumber x4 h) fun x5 h4 =>
f_Su_ofThoseMeeting_b198 x5 h4)))
def f_Su_ofThoseMeeting_b146 (b64 : Int32 → Option Nat → Option Nat → Option Nat → Int32 → Int32 → UInt64 → Int32 → gk_H → Option ((Option Nat) × gk_H)) (v0 : Int32) (v2 : Option Nat) (v3 : Option Nat) (v4 : Option Nat) (v5 : Int32) (v6 : Int32) (v7 : UInt64) (v9 : Int32) (h : gk_H) : Option ((Option Nat) × gk_H) :=
gk_let (v9 + (1 : Int32)) fun x1 =>
b64 v0 v2 v3 v4 v5 v6 v7 x1 h
def f_Su_ofThoseMeeting_b143 (b64 : Int32 → Option Nat → Option Nat → Option Nat → Int32 → Int32 → UInt64 → Int32 → gk_H → Option ((Option Nat) × gk_H)) (v0 : Int32) (v2 : Option Nat) (v3 : Option Nat) (v4 : Option Nat) (v5 : Int32) (v6 : Int32) (v9 : Int32) (s0 : UInt64) (s1 : UInt64) (h : gk_H) : Option ((Option Nat) × gk_H) :=
gk_dop (FP.dadd s0 s1) fun x1 =>
f_Su_ofThoseMeeting_b146 b64 v0 v2 v3 v4 v5 v6 x1 v9 h
def f_Su_ofThoseMeeting_b118 (b64 : Int32 → Option Nat → Option Nat → Option Nat → Int32 → Int32 → UInt64 → Int32 → gk_H → Option ((Option Nat) × gk_H)) (v0 : Int32) (v2 : Option Nat) (v3 : Option Nat) (v4 : Option Nat) (v5 : Int32) (v7 : UInt64) (v9 : Int32) (s0 : Int32) (s1 : Int32) (h : gk_H) : Option ((Option Nat) × gk_H) :=
gk_let (s0 + s1) fun x1 =>
if v0 = (16 : Int32) then
(f_Su_ofThoseMeeting_b143 b64 v0 v2 v3 v4 v5 x1 v9 v7 (0x0000000000000000) h)
else
(gk_cv h v4 2 (f_Va_cellAt v4 v9 h) fun x2 h1 =>
((gk_get h1 x2 2 2).bind gk_asD).bind fun x3 =>
f_Su_ofThoseMeeting_b143 b64 v0 v2 v3 v4 v5 x1 v9 v7 x3 h1)
def f_Su_ofThoseMeeting_b64  : Nat → Int32 → Option Nat → Option Nat → Option Nat → Int32 → Int32 → UInt64 → Int32 → gk_H → Option ((Option Nat) × gk_H)
  | 0 => fun _ _ _ _ _ _ _ _ _ => none
  | fu + 1 => fun v0 v2 v3 v4 v5 v6 v7 v9 h =>
gk_cv h v2 2 (f_Va_howManyCells v2 h) fun x1 h1 =>
if x1 ≤ v9 then
(f_Su_ofThoseMeeting_b152 v0 v5 v6 v7 h1)
else
(gk_ca (f_Va_isFinite v7 h1) fun x2 h2 =>
if x2 = 0 then
(f_Su_ofThoseMeeting_b152 v0 v5 v6 v7 h2)
else
(gk_cv h2 v2 2 (f_Va_cellAt v2 v9 h2) fun x3 h3 =>
gk_cv h3 v3 6 (f_Cr_isMetBy v3 x3 h3) fun x4 h4 =>
if x4 = 0 then
(f_Su_ofThoseMeeting_b146 (f_Su_ofThoseMeeting_b64 fu) v0 v2 v3 v4 v5 v6 v7 v9 h4)
else
(gk_let (v5 + (1 : Int32)) fun x5 =>
gk_cv h4 v4 2 (f_Va_cellAt v4 v9 h4) fun x6 h5 =>
((gk_get h5 x6 2 0).bind gk_asI).bind fun x7 =>
if x7 = (1 : Int32) then
(f_Su_ofThoseMeeting_b118 (f_Su_ofThoseMeeting_b64 fu) v0 v2 v3 v4 x5 v7 v9 v6 (1 : Int32) h5)
else
(f_Su_ofThoseMeeting_b118 (f_Su_ofThoseMeeting_b64 fu) v0 v2 v3 v4 x5 v7 v9 v6 (0 : Int32) h5))))
def f_Su_ofThoseMeeting_b36  (v0 : Int32) (v2 : Option Nat) (v3 : Option Nat) (s0 : Option Nat) (h : gk_H) : Option ((Option Nat) × gk_H) :=
gk_cv h s0 2 (f_Va_isOfShape s0 v2 h) fun x1 h1 =>
if x1 = 0 then
(gk_ca (f_Va_ofError (3 : Int32) h1) fun x2 h2 =>
some (x2, h2))
else
(f_Su_ofThoseMeeting_b64 gk_F v0 v2 v3 s0 (0 : Int32) (0 : Int32) (0x0000000000000000) (0 : Int32) h1)
def f_Su_ofThoseMeeting (a0 : Int32) (a1 : Option Nat) (h : gk_H) : Option ((Option Nat) × gk_H) :=
gk_cv h a1 4 (f_Ar_raw a1 (0 : Int32) h) fun x1 h1 =>
gk_cv h1 a1 4 (f_Ar_sound a1 (1 : Int32) h1) fun x2 h2 =>
((gk_get h2 a1 4 8).bind gk_asR).bind fun x3 =>
gk_ca (f_Cr_of x2 x3 h2) fun x4 h3 =>
gk_cv h3 a1 4 (f_Ar_howMany a1 h3) fun x5 h4 =>
if x5 ≤ (2 : Int32) then
(f_Su_ofThoseMeeting_b36 a0 x1 x4 x1 h4)
else
(gk_cv h4 a1 4 (f_Ar_raw a1 (2 : Int32) h4) fun x6 h5 =>
f_Su_ofThoseMeeting_b36 a0 x1 x4 x6 h5)
def f_Ar_blameCells_b40 (b8 : Option Nat → Option Nat → Int32 → gk_H → Option (Unit × gk_H)) (v0 : Option Nat) (v2 : Option Nat) (v3 : Int32) (h : gk_H) : Option (Unit × gk_H) :=
gk_let (v3 + (1 : Int32)) fun x1 =>
b8 v0 v2 x1 h
def f_Ar_blameCells_b8  : Nat → Option Nat → Option Nat → Int32 → gk_H → Option (Unit × gk_H)
  | 0 => fun _ _ _ _ => none
  | fu + 1 => fun v0 v2 v3 h =>
gk_cv h v2 2 (f_Va_howManyCells v2 h) fun x1 h1 =>
if x1 ≤ v3 then
(some ((), h1))
else
(gk_cv h1 v2 2 (f_Va_cellAt v2 v3 h1) fun x2 h2 =>
((gk_get h2 x2 2 0).bind gk_asI).bind fun x3 =>
if x3 = (4 : Int32) then
(gk_cv h2 v2 2 (f_Va_cellAt v2 v3 h2) fun x4 h3 =>
((gk_get h3 x4 2 1).bind gk_asI).bind fun x5 =>
gk_cv h3 v0 4 (f_Ar_blame v0 x5 h3) fun _ h4 =>
f_Ar_blameCells_b40 (f_Ar_blameCells_b8 fu) v0 v2 v3 h4)
else
(f_Ar_blameCells_b40 (f_Ar_blameCells_b8 fu) v0 v2 v3 h2))
def f_Ar_blameCells (a0 : Option Nat) (a1 : Int32) (h : gk_H) : Option (Unit × gk_H) :=
gk_cv h a0 4 (f_Ar_raw a0 a1 h) fun x1 h1 =>
f_Ar_blameCells_b8 gk_F a0 x1 (0 : Int32) h1
def f_Su_productAt_b43  (v2 : UInt64) (h : gk_H) : Option (UInt64 × gk_H) :=
some (v2, h)
def f_Su_productAt_b5  : Nat → Option Nat → Int32 → UInt64 → Int32 → gk_H → Option (UInt64 × gk_H)
  | 0 => fun _ _ _ _ _ => none
  | fu + 1 => fun v0 v1 v2 v4 h =>
gk_cv h v0 4 (f_Ar_howMany v0 h) fun x1 h1 =>
if x1 ≤ v4 then
(f_Su_productAt_b43 v2 h1)
else
(gk_ca (f_Va_isFinite v2 h1) fun x2 h2 =>
if x2 = 0 then
(f_Su_productAt_b43 v2 h2)
else
(gk_cv h2 v0 4 (f_Ar_raw v0 v4 h2) fun x3 h3 =>
gk_cv h3 x3 2 (f_Va_cellAt x3 v1 h3) fun x4 h4 =>
((gk_get h4 x4 2 2).bind gk_asD).bind fun x5 =>
gk_dop (FP.dmul v2 x5) fun x6 =>
gk_let (v4 + (1 : Int32)) fun x7 =>
(f_Su_productAt_b5 fu) v0 v1 x6 x7 h4))
def f_Su_productAt (a0 : Option Nat) (a1 : Int32) (h : gk_H) : Option (UInt64 × gk_H) :=
f_Su_productAt_b5 gk_F a0 a1 (0x3ff0000000000000) (0 : Int32) h
def f_Su_sumOfProducts_b114  (v3 : UInt64) (h : gk_H) : Option ((Option Nat) × gk_H) :=
gk_ca (f_Va_ofNumber v3 h) fun x1 h1 =>
some (x1, h1)
def f_Su_sumOfProducts_b65  : Nat → Option Nat → Option Nat → UInt64 → Int32 → gk_H → Option ((Option Nat) × gk_H)
  | 0 => fun _ _ _ _ _ => none
  | fu + 1 => fun v0 v1 v3 v5 h =>
gk_cv h v1 2 (f_Va_howManyCells v1 h) fun x1 h1 =>
if x1 ≤ v5 then
(f_Su_sumOfProducts_b114 v3 h1)
else
(gk_ca (f_Va_isFinite v3 h1) fun x2 h2 =>
if x2 = 0 then
(f_Su_sumOfProducts_b114 v3 h2)
else
(gk_ca (f_Su_productAt v0 v5 h2) fun x3 h3 =>
gk_ca (f_Va_isFinite x3 h3) fun x4 h4 =>
if x4 = 0 then
(gk_ca (f_Va_ofError (6 : Int32) h4) fun x5 h5 =>
some (x5, h5))
else
(gk_dop (FP.dadd v3 x3) fun x6 =>
gk_let (v5 + (1 : Int32)) fun x7 =>
(f_Su_sumOfProducts_b65 fu) v0 v1 x6 x7 h4)))
def f_Su_sumOfProducts_b44 (b10 : Option Nat → Option Nat → Int32 → Int32 → gk_H → Option ((Option Nat) × gk_H)) (v0 : Option Nat) (v1 : Option Nat) (v3 : Int32) (s0 : Int32) (h : gk_H) : Option ((Option Nat) × gk_H) :=
gk_let (v3 + (1 : Int32)) fun x1 =>
b10 v0 v1 s0 x1 h
def f_Su_sumOfProducts_b43 (b10 : Option Nat → Option Nat → Int32 → Int32 → gk_H → Option ((Option Nat) × gk_H)) (v0 : Option Nat) (v1 : Option Nat) (v3 : Int32) (h : gk_H) : Option ((Option Nat) × gk_H) :=
f_Su_sumOfProducts_b44 b10 v0 v1 v3 (0 : Int32) h
def f_Su_sumOfProducts_b10  : Nat → Option Nat → Option Nat → Int32 → Int32 → gk_H → Option ((Option Nat) × gk_H)
  | 0 => fun _ _ _ _ _ => none
  | fu + 1 => fun v0 v1 v2 v3 h =>
gk_cv h v0 4 (f_Ar_howMany v0 h) fun x1 h1 =>
if x1 ≤ v3 then
(if v2 = 0 then
(gk_ca (f_Va_ofError (3 : Int32) h1) fun x2 h2 =>
some (x2, h2))
else
(f_Su_sumOfProducts_b65 gk_F v0 v1 (0x0000000000000000) (0 : Int32) h1))
else
(gk_cv h1 v0 4 (f_Ar_blameCells v0 v3 h1) fun _ h3 =>
if v2 = 0 then
(f_Su_sumOfProducts_b43 (f_Su_sumOfProducts_b10 fu) v0 v1 v3 h3)
else
(gk_cv h3 v0 4 (f_Ar_raw v0 v3 h3) fun x3 h4 =>
gk_cv h4 v1 2 (f_Va_isOfShape v1 x3 h4) fun x4 h5 =>
if x4 = 0 then
(f_Su_sumOfProducts_b43 (f_Su_sumOfProducts_b10 fu) v0 v1 v3 h5)
else
(f_Su_sumOfProducts_b44 (f_Su_sumOfProducts_b10 fu) v0 v1 v3 (1 : Int32) h5)))
def f_Su_sumOfProducts (a0 : Option Nat) (h : gk_H) : Option ((Option Nat) × gk_H) :=
gk_cv h a0 4 (f_Ar_raw a0 (0 : Int32) h) fun x1 h1 =>
f_Su_sumOfProducts_b10 gk_F a0 x1 (1 : Int32) (0 : Int32) h1
def f_Ar_addToRow_b32   (h : gk_H) : Option (Unit × gk_H) :=
some ((), h)
def f_Ar_addToRow (a0 : Option Nat) (a1 : UInt64) (h : gk_H) : Option (Unit × gk_H) :=
((gk_get h a0 4 5).bind gk_asI).bind fun x1 =>
((gk_get h a0 4 4).bind gk_asR).bind fun x2 =>
(gk_len h x2).bind fun x3 =>
if x3 ≤ x1 then
(f_Ar_addToRow_b32 h)
else
(((gk_get h a0 4 4).bind gk_asR).bind fun x4 =>
((gk_get h a0 4 5).bind gk_asI).bind fun x5 =>
(gk_ast h x4 6 x5 (.double a1)).bind fun h1 =>
((gk_get h1 a0 4 5).bind gk_asI).bind fun x6 =>
(gk_set h1 a0 4 5 (.int (x6 + (1 : Int32)))).bind fun h2 =>
f_Ar_addToRow_b32 h2)
def f_Ar_gatherCells_b46 (b13 : Option Nat → Option Nat → Int32 → gk_H → Option (Unit × gk_H)) (v0 : Option Nat) (v2 : Option Nat) (v3 : Int32) (h : gk_H) : Option (Unit × gk_H) :=
gk_let (v3 + (1 : Int32)) fun x1 =>
b13 v0 v2 x1 h
def f_Ar_gatherCells_b13  : Nat → Option Nat → Option Nat → Int32 → gk_H → Option (Unit × gk_H)
  | 0 => fun _ _ _ _ => none
  | fu + 1 => fun v0 v2 v3 h =>
gk_cv h v2 2 (f_Va_howManyCells v2 h) fun x1 h1 =>
if x1 ≤ v3 then
(some ((), h1))
else
(gk_cv h1 v2 2 (f_Va_cellAt v2 v3 h1) fun x2 h2 =>
((gk_get h2 x2 2 0).bind gk_asI).bind fun x3 =>
if x3 = (1 : Int32) then
(((gk_get h2 x2 2 2).bind gk_asD).bind fun x4 =>
gk_cv h2 v0 4 (f_Ar_addToRow v0 x4 h2) fun _ h3 =>
f_Ar_gatherCells_b46 (f_Ar_gatherCells_b13 fu) v0 v2 v3 h3)
else
(f_Ar_gatherCells_b46 (f_Ar_gatherCells_b13 fu) v0 v2 v3 h2))
def f_Ar_gatherCells (a0 : Option Nat) (a1 : Int32) (h : gk_H) : Option (Unit × gk_H) :=
gk_cv h a0 4 (f_Ar_raw a0 a1 h) fun x1 h1 =>
gk_cv h1 a0 4 (f_Ar_blameCells a0 a1 h1) fun _ h2 =>
f_Ar_gatherCells_b13 gk_F a0 x1 (0 : Int32) h2
def f_Ar_inRow (a0 : Option Nat) (h : gk_H) : Option (Int32 × gk_H) :=
((gk_get h a0 4 5).bind gk_asI).bind fun x1 =>
some (x1, h)
def f_Ar_ofRow_b22  (s0 : UInt64) (h : gk_H) : Option (UInt64 × gk_H) :=
some (s0, h)
def f_Ar_ofRow_b21   (h : gk_H) : Option (UInt64 × gk_H) :=
f_Ar_ofRow_b22 (0x0000000000000000) h
def f_Ar_ofRow (a0 : Option Nat) (a1 : Int32) (h : gk_H) : Option (UInt64 × gk_H) :=
if a1 < 0 then
(f_Ar_ofRow_b21 h)
else
(((gk_get h a0 4 5).bind gk_asI).bind fun x1 =>
if x1 ≤ a1 then
(f_Ar_ofRow_b21 h)
else
(((gk_get h a0 4 4).bind gk_asR).bind fun x2 =>
((gk_ald h x2 6 a1).bind gk_asD).bind fun x3 =>
f_Ar_ofRow_b22 x3 h))
def f_Su_rank_b96  (s0 : Option Nat) (h : gk_H) : Option ((Option Nat) × gk_H) :=
some (s0, h)
def f_Su_rank_b68 (b19 : Option Nat → UInt64 → Int32 → Int32 → Int32 → gk_H → Option ((Option Nat) × gk_H)) (v0 : Option Nat) (v1 : UInt64) (v3 : Int32) (v5 : Int32) (s0 : Int32) (h : gk_H) : Option ((Option Nat) × gk_H) :=
gk_let (v5 + (1 : Int32)) fun x1 =>
b19 v0 v1 v3 s0 x1 h
def f_Su_rank_b63 (b19 : Option Nat → UInt64 → Int32 → Int32 → Int32 → gk_H → Option ((Option Nat) × gk_H)) (v0 : Option Nat) (v1 : UInt64) (v3 : Int32) (v5 : Int32) (h : gk_H) : Option ((Option Nat) × gk_H) :=
f_Su_rank_b68 b19 v0 v1 v3 v5 (1 : Int32) h
def f_Su_rank_b45 (b19 : Option Nat → UInt64 → Int32 → Int32 → Int32 → gk_H → Option ((Option Nat) × gk_H)) (v0 : Option Nat) (v1 : UInt64) (v4 : Int32) (v5 : Int32) (s0 : Int32) (s1 : Int32) (h : gk_H) : Option ((Option Nat) × gk_H) :=
gk_let (s0 + s1) fun x1 =>
if v4 = 0 then
(gk_cv h v0 4 (f_Ar_ofRow v0 v5 h) fun x2 h1 =>
if (Op.cmpValue (FP.dcmp x2 v1) .l) = 0 then
(f_Su_rank_b63 b19 v0 v1 x1 v5 h1)
else
(f_Su_rank_b68 b19 v0 v1 x1 v5 (0 : Int32) h1))
else
(f_Su_rank_b63 b19 v0 v1 x1 v5 h)
def f_Su_rank_b19  : Nat → Option Nat → UInt64 → Int32 → Int32 → Int32 → gk_H → Option ((Option Nat) × gk_H)
  | 0 => fun _ _ _ _ _ _ => none
  | fu + 1 => fun v0 v1 v3 v4 v5 h =>
gk_cv h v0 4 (f_Ar_inRow v0 h) fun x1 h1 =>
if x1 ≤ v5 then
(if v4 = 0 then
(gk_ca (f_Va_ofError (7 : Int32) h1) fun x2 h2 =>
f_Su_rank_b96 x2 h2)
else
(gk_ca (f_Va_ofNumber (FP.i2d ((1 : Int32) + v3)) h1) fun x3 h3 =>
f_Su_rank_b96 x3 h3))
else
(gk_cv h1 v0 4 (f_Ar_ofRow v0 v5 h1) fun x4 h4 =>
if (Op.cmpValue (FP.dcmp x4 v1) .l) ≤ 0 then
(f_Su_rank_b45 (f_Su_rank_b19 fu) v0 v1 v4 v5 v3 (0 : Int32) h4)
else
(f_Su_rank_b45 (f_Su_rank_b19 fu) v0 v1 v4 v5 v3 (1 : Int32) h4))
def f_Su_rank (a0 : Option Nat) (h : gk_H) : Option ((Option Nat) × gk_H) :=
gk_cv h a0 4 (f_Ar_amount a0 (0 : Int32) h) fun x1 h1 =>
gk_cv h1 a0 4 (f_Ar_gatherCells a0 (1 : Int32) h1) fun _ h2 =>
f_Su_rank_b19 gk_F a0 x1 (0 : Int32) (0 : Int32) (0 : Int32) h2
def f_Ar_whole (a0 : Option Nat) (a1 : Int32) (h : gk_H) : Option (Int64 × gk_H) :=
gk_cv h a0 4 (f_Ar_amount a0 a1 h) fun x1 h1 =>
gk_ca (f_Am_isWithinWhole x1 h1) fun x2 h2 =>
if x2 = 0 then
(gk_cv h2 a0 4 (f_Ar_blame a0 (6 : Int32) h2) fun _ h3 =>
some ((0 : Int64), h3))
else
(some ((FP.d2l x1), h2))
def f_Ar_sortRow_b61 (b2 : Option Nat → Int32 → gk_H → Option (Unit × gk_H)) (v0 : Option Nat) (v1 : Int32) (v2 : UInt64) (v4 : Int32) (h : gk_H) : Option (Unit × gk_H) :=
((gk_get h v0 4 4).bind gk_asR).bind fun x1 =>
(gk_ast h x1 6 v4 (.double v2)).bind fun h1 =>
gk_let (v1 + (1 : Int32)) fun x2 =>
b2 v0 x2 h1
def f_Ar_sortRow_b20 (b2 : Option Nat → Int32 → gk_H → Option (Unit × gk_H)) : Nat → Option Nat → Int32 → UInt64 → Int32 → gk_H → Option (Unit × gk_H)
  | 0 => fun _ _ _ _ _ => none
  | fu + 1 => fun v0 v1 v2 v4 h =>
if v4 ≤ 0 then
(f_Ar_sortRow_b61 b2 v0 v1 v2 v4 h)
else
(((gk_get h v0 4 4).bind gk_asR).bind fun x1 =>
((gk_ald h x1 6 (v4 - (1 : Int32))).bind gk_asD).bind fun x2 =>
if (Op.cmpValue (FP.dcmp x2 v2) .l) ≤ 0 then
(f_Ar_sortRow_b61 b2 v0 v1 v2 v4 h)
else
(((gk_get h v0 4 4).bind gk_asR).bind fun x3 =>
((gk_get h v0 4 4).bind gk_asR).bind fun x4 =>
((gk_ald h x4 6 (v4 - (1 : Int32))).bind gk_asD).bind fun x5 =>
(gk_ast h x3 6 v4 (.double x5)).bind fun h1 =>
gk_let (v4 + (-1 : Int32)) fun x6 =>
(f_Ar_sortRow_b20 b2 fu) v0 v1 v2 x6 h1))
def f_Ar_sortRow_b2  : Nat → Option Nat → Int32 → gk_H → Option (Unit × gk_H)
  | 0 => fun _ _ _ => none
  | fu + 1 => fun v0 v1 h =>
((gk_get h v0 4 5).bind gk_asI).bind fun x1 =>
if x1 ≤ v1 then
(some ((), h))
else
(((gk_get h v0 4 4).bind gk_asR).bind fun x2 =>
((gk_ald h x2 6 v1).bind gk_asD).bind fun x3 =>
f_Ar_sortRow_b20 (f_Ar_sortRow_b2 fu) gk_F v0 v1 x3 v1 h)
def f_Ar_sortRow (a0 : Option Nat) (h : gk_H) : Option (Unit × gk_H) :=
f_Ar_sortRow_b2 gk_F a0 (1 : Int32) h
def f_Su_atRank_b31   (h : gk_H) : Option ((Option Nat) × gk_H) :=
gk_ca (f_Va_ofError (6 : Int32) h) fun x1 h1 =>
some (x1, h1)
def f_Su_atRank_b58  (v1 : Option Nat) (s0 : Int64) (h : gk_H) : Option ((Option Nat) × gk_H) :=
gk_let (Int64.toInt32 s0) fun x1 =>
gk_cv h v1 4 (f_Ar_ofRow v1 x1 h) fun x2 h1 =>
gk_ca (f_Va_ofNumber x2 h1) fun x3 h2 =>
some (x3, h2)
def f_Su_atRank (a0 : Int32) (a1 : Option Nat) (h : gk_H) : Option ((Option Nat) × gk_H) :=
gk_cv h a1 4 (f_Ar_gatherCells a1 (0 : Int32) h) fun _ h1 =>
gk_cv h1 a1 4 (f_Ar_whole a1 (1 : Int32) h1) fun x1 h2 =>
gk_cv h2 a1 4 (f_Ar_inRow a1 h2) fun x2 h3 =>
if (lg_cmp x1 (1 : Int64)) < 0 then
(f_Su_atRank_b31 h3)
else
(if (lg_cmp x1 (Int32.toInt64 x2)) ≤ 0 then
(gk_cv h3 a1 4 (f_Ar_sortRow a1 h3) fun _ h4 =>
if a0 = (10 : Int32) then
(f_Su_atRank_b58 a1 ((Int32.toInt64 x2) - x1) h4)
else
(f_Su_atRank_b58 a1 (x1 - (1 : Int64)) h4))
else
(f_Su_atRank_b31 h3))
def f_Su_counts_b85  (s0 : Int32) (h : gk_H) : Option (Int32 × gk_H) :=
if narrow .boolean (.int s0) = .int s0 then some (s0, h) else none
def f_Su_counts_b72  (v1 : Option Nat) (h : gk_H) : Option (Int32 × gk_H) :=
((gk_get h v1 2 0).bind gk_asI).bind fun x1 =>
if x1 = (1 : Int32) then
(f_Su_counts_b85 (1 : Int32) h)
else
(f_Su_counts_b85 (0 : Int32) h)
def f_Su_counts_b122  (s0 : Int32) (h : gk_H) : Option (Int32 × gk_H) :=
if narrow .boolean (.int s0) = .int s0 then some (s0, h) else none
def f_Su_counts_b117   (h : gk_H) : Option (Int32 × gk_H) :=
f_Su_counts_b122 (1 : Int32) h
def f_Su_counts_b59  (s0 : Int32) (h : gk_H) : Option (Int32 × gk_H) :=
if narrow .boolean (.int s0) = .int s0 then some (s0, h) else none
def f_Su_counts_b54   (h : gk_H) : Option (Int32 × gk_H) :=
f_Su_counts_b59 (1 : Int32) h
def f_Su_counts_b36  (s0 : Int32) (h : gk_H) : Option (Int32 × gk_H) :=
if narrow .boolean (.int s0) = .int s0 then some (s0, h) else none
def f_Su_counts_b31   (h : gk_H) : Option (Int32 × gk_H) :=
f_Su_counts_b36 (1 : Int32) h
def f_Su_counts_b35   (h : gk_H) : Option (Int32 × gk_H) :=
f_Su_counts_b36 (0 : Int32) h
def f_Su_counts (a0 : Int32) (a1 : Option Nat) (a2 : Int32) (h : gk_H) : Option (Int32 × gk_H) :=
if a0 = (8 : Int32) then
(((gk_get h a1 2 0).bind gk_asI).bind fun x1 =>
if x1 = 0 then
(f_Su_counts_b31 h)
else
(((gk_get h a1 2 0).bind gk_asI).bind fun x2 =>
if x2 = (2 : Int32) then
(((gk_get h a1 2 3).bind gk_asR).bind fun x3 =>
gk_cv h x3 0 (f_St_isEmpty x3 h) fun x4 h1 =>
if x4 = 0 then
(f_Su_counts_b35 h1)
else
(f_Su_counts_b31 h1))
else
(f_Su_counts_b35 h)))
else
(if a0 = (7 : Int32) then
(if a2 = 0 then
(((gk_get h a1 2 0).bind gk_asI).bind fun x5 =>
if x5 = 0 then
(f_Su_counts_b59 (0 : Int32) h)
else
(f_Su_counts_b54 h))
else
(f_Su_counts_b54 h))
else
(if a2 = 0 then
(f_Su_counts_b72 a1 h)
else
(((gk_get h a1 2 0).bind gk_asI).bind fun x6 =>
if x6 = (1 : Int32) then
(f_Su_counts_b72 a1 h)
else
(((gk_get h a1 2 0).bind gk_asI).bind fun x7 =>
if x7 = (2 : Int32) then
(((gk_get h a1 2 3).bind gk_asR).bind fun x8 =>
gk_ca (f_Le_isNumeral x8 h) fun x9 h2 =>
if narrow .boolean (.int x9) = .int x9 then some (x9, h2) else none)
else
(((gk_get h a1 2 0).bind gk_asI).bind fun x10 =>
if x10 = 0 then
(f_Su_counts_b117 h)
else
(((gk_get h a1 2 0).bind gk_asI).bind fun x11 =>
if x11 = (3 : Int32) then
(f_Su_counts_b117 h)
else
(f_Su_counts_b122 (0 : Int32) h)))))))
def f_Su_counted_b63 (b4 : Int32 → Option Nat → Int32 → Int32 → gk_H → Option ((Option Nat) × gk_H)) (b22 : Int32 → Option Nat → Int32 → Int32 → Option Nat → Int32 → gk_H → Option ((Option Nat) × gk_H)) (v0 : Int32) (v1 : Option Nat) (v2 : Int32) (v3 : Int32) (v4 : Option Nat) (v5 : Int32) (h : gk_H) : Option ((Option Nat) × gk_H) :=
gk_let (v5 + (1 : Int32)) fun x1 =>
b22 v0 v1 v2 v3 v4 x1 h
def f_Su_counted_b54 (b4 : Int32 → Option Nat → Int32 → Int32 → gk_H → Option ((Option Nat) × gk_H)) (b22 : Int32 → Option Nat → Int32 → Int32 → Option Nat → Int32 → gk_H → Option ((Option Nat) × gk_H)) (v0 : Int32) (v1 : Option Nat) (v2 : Int32) (v3 : Int32) (v4 : Option Nat) (v5 : Int32) (s0 : Int32) (s1 : Option Nat) (s2 : Int32) (h : gk_H) : Option ((Option Nat) × gk_H) :=
gk_ca (f_Su_counts s0 s1 s2 h) fun x1 h1 =>
if x1 = 0 then
(f_Su_counted_b63 b4 b22 v0 v1 v2 v3 v4 v5 h1)
else
(gk_let (v2 + (1 : Int32)) fun x2 =>
f_Su_counted_b63 b4 b22 v0 v1 x2 v3 v4 v5 h1)
def f_Su_counted_b22 (b4 : Int32 → Option Nat → Int32 → Int32 → gk_H → Option ((Option Nat) × gk_H)) : Nat → Int32 → Option Nat → Int32 → Int32 → Option Nat → Int32 → gk_H → Option ((Option Nat) × gk_H)
  | 0 => fun _ _ _ _ _ _ _ => none
  | fu + 1 => fun v0 v1 v2 v3 v4 v5 h =>
gk_cv h v4 2 (f_Va_howManyCells v4 h) fun x1 h1 =>
if x1 ≤ v5 then
(gk_let (v3 + (1 : Int32)) fun x2 =>
b4 v0 v1 v2 x2 h1)
else
(gk_cv h1 v4 2 (f_Va_cellAt v4 v5 h1) fun x3 h2 =>
((gk_get h2 v4 2 0).bind gk_asI).bind fun x4 =>
if x4 = (5 : Int32) then
(f_Su_counted_b54 b4 (f_Su_counted_b22 b4 fu) v0 v1 v2 v3 v4 v5 v0 x3 (0 : Int32) h2)
else
(f_Su_counted_b54 b4 (f_Su_counted_b22 b4 fu) v0 v1 v2 v3 v4 v5 v0 x3 (1 : Int32) h2))
def f_Su_counted_b4  : Nat → Int32 → Option Nat → Int32 → Int32 → gk_H → Option ((Option Nat) × gk_H)
  | 0 => fun _ _ _ _ _ => none
  | fu + 1 => fun v0 v1 v2 v3 h =>
gk_cv h v1 4 (f_Ar_howMany v1 h) fun x1 h1 =>
if x1 ≤ v3 then
(gk_ca (f_Va_ofNumber (FP.i2d v2) h1) fun x2 h2 =>
some (x2, h2))
else
(gk_cv h1 v1 4 (f_Ar_raw v1 v3 h1) fun x3 h3 =>
f_Su_counted_b22 (f_Su_counted_b4 fu) gk_F v0 v1 v2 v3 x3 (0 : Int32) h3)
def f_Su_counted (a0 : Int32) (a1 : Option Nat) (h : gk_H) : Option ((Option Nat) × gk_H) :=
f_Su_counted_b4 gk_F a0 a1 (0 : Int32) (0 : Int32) h
def f_Ar_gather_b39 (b2 : Option Nat → Int32 → gk_H → Option (Unit × gk_H)) (v0 : Option Nat) (v1 : Int32) (h : gk_H) : Option (Unit × gk_H) :=
gk_let (v1 + (1 : Int32)) fun x1 =>
b2 v0 x1 h
def f_Ar_gather_b2  : Nat → Option Nat → Int32 → gk_H → Option (Unit × gk_H)
  | 0 => fun _ _ _ => none
  | fu + 1 => fun v0 v1 h =>
((gk_get h v0 4 2).bind gk_asI).bind fun x1 =>
if x1 ≤ v1 then
(some ((), h))
else
(gk_cv h v0 4 (f_Ar_raw v0 v1 h) fun x2 h1 =>
((gk_get h1 x2 2 0).bind gk_asI).bind fun x3 =>
if x3 = (5 : Int32) then
(gk_cv h1 v0 4 (f_Ar_gatherCells v0 v1 h1) fun _ h2 =>
f_Ar_gather_b39 (f_Ar_gather_b2 fu) v0 v1 h2)
else
(gk_cv h1 v0 4 (f_Ar_amount v0 v1 h1) fun x4 h3 =>
gk_cv h3 v0 4 (f_Ar_addToRow v0 x4 h3) fun _ h4 =>
f_Ar_gather_b39 (f_Ar_gather_b2 fu) v0 v1 h4))
def f_Ar_gather (a0 : Option Nat) (h : gk_H) : Option (Unit × gk_H) :=
f_Ar_gather_b2 gk_F a0 (0 : Int32) h
def f_Su_sum_b33  (v1 : UInt64) (h : gk_H) : Option (UInt64 × gk_H) :=
some (v1, h)
def f_Su_sum_b4  : Nat → Option Nat → UInt64 → Int32 → gk_H → Option (UInt64 × gk_H)
  | 0 => fun _ _ _ _ => none
  | fu + 1 => fun v0 v1 v3 h =>
gk_cv h v0 4 (f_Ar_inRow v0 h) fun x1 h1 =>
if x1 ≤ v3 then
(f_Su_sum_b33 v1 h1)
else
(gk_ca (f_Va_isFinite v1 h1) fun x2 h2 =>
if x2 = 0 then
(f_Su_sum_b33 v1 h2)
else
(gk_cv h2 v0 4 (f_Ar_ofRow v0 v3 h2) fun x3 h3 =>
gk_dop (FP.dadd v1 x3) fun x4 =>
gk_let (v3 + (1 : Int32)) fun x5 =>
(f_Su_sum_b4 fu) v0 x4 x5 h3))
def f_Su_sum (a0 : Option Nat) (h : gk_H) : Option (UInt64 × gk_H) :=
f_Su_sum_b4 gk_F a0 (0x0000000000000000) (0 : Int32) h
def f_Su_average (a0 : Option Nat) (h : gk_H) : Option ((Option Nat) × gk_H) :=
gk_cv h a0 4 (f_Ar_inRow a0 h) fun x1 h1 =>
if x1 = 0 then
(gk_ca (f_Va_ofError (2 : Int32) h1) fun x2 h2 =>
some (x2, h2))
else
(gk_ca (f_Su_sum a0 h1) fun x3 h3 =>
gk_cv h3 a0 4 (f_Ar_inRow a0 h3) fun x4 h4 =>
gk_dop (FP.ddiv x3 (FP.i2d x4)) fun x5 =>
gk_ca (f_Va_ofNumber x5 h4) fun x6 h5 =>
some (x6, h5))
def f_Su_sumOfSquares_b45  (v3 : UInt64) (h : gk_H) : Option (UInt64 × gk_H) :=
some (v3, h)
def f_Su_sumOfSquares_b5  : Nat → Option Nat → UInt64 → UInt64 → Int32 → gk_H → Option (UInt64 × gk_H)
  | 0 => fun _ _ _ _ _ => none
  | fu + 1 => fun v0 v1 v3 v5 h =>
gk_cv h v0 4 (f_Ar_inRow v0 h) fun x1 h1 =>
if x1 ≤ v5 then
(f_Su_sumOfSquares_b45 v3 h1)
else
(gk_ca (f_Va_isFinite v3 h1) fun x2 h2 =>
if x2 = 0 then
(f_Su_sumOfSquares_b45 v3 h2)
else
(gk_cv h2 v0 4 (f_Ar_ofRow v0 v5 h2) fun x3 h3 =>
gk_dop (FP.dsub x3 v1) fun x4 =>
gk_dop (FP.dmul x4 x4) fun x5 =>
gk_dop (FP.dadd v3 x5) fun x6 =>
gk_let (v5 + (1 : Int32)) fun x7 =>
(f_Su_sumOfSquares_b5 fu) v0 v1 x6 x7 h3))
def f_Su_sumOfSquares (a0 : Option Nat) (a1 : UInt64) (h : gk_H) : Option (UInt64 × gk_H) :=
f_Su_sumOfSquares_b5 gk_F a0 a1 (0x0000000000000000) (0 : Int32) h
def f_Su_variance_b55  (s0 : Option Nat) (h : gk_H) : Option ((Option Nat) × gk_H) :=
some (s0, h)
def f_Su_variance (a0 : Option Nat) (a1 : Int32) (h : gk_H) : Option ((Option Nat) × gk_H) :=
gk_ca (f_Su_average a0 h) fun x1 h1 =>
((gk_get h1 x1 2 0).bind gk_asI).bind fun x2 =>
if x2 = (4 : Int32) then
(some (x1, h1))
else
(((gk_get h1 x1 2 2).bind gk_asD).bind fun x3 =>
gk_ca (f_Su_sumOfSquares a0 x3 h1) fun x4 h2 =>
gk_ca (f_Va_isFinite x4 h2) fun x5 h3 =>
if x5 = 0 then
(gk_ca (f_Va_ofError (6 : Int32) h3) fun x6 h4 =>
some (x6, h4))
else
(if a1 ≤ 0 then
(gk_ca (f_Va_ofError (2 : Int32) h3) fun x7 h5 =>
f_Su_variance_b55 x7 h5)
else
(gk_dop (FP.ddiv x4 (FP.i2d a1)) fun x8 =>
gk_ca (f_Va_ofNumber x8 h3) fun x9 h6 =>
f_Su_variance_b55 x9 h6)))
def f_Su_median (a0 : Option Nat) (h : gk_H) : Option ((Option Nat) × gk_H) :=
gk_cv h a0 4 (f_Ar_inRow a0 h) fun x1 h1 =>
if x1 = 0 then
(gk_ca (f_Va_ofError (6 : Int32) h1) fun x2 h2 =>
some (x2, h2))
else
(gk_cv h1 a0 4 (f_Ar_sortRow a0 h1) fun _ h3 =>
gk_cv h3 a0 4 (f_Ar_ofRow a0 (x1 / (2 : Int32)) h3) fun x3 h4 =>
if (x1 - x1 / (2 : Int32) * (2 : Int32)) = (1 : Int32) then
(gk_ca (f_Va_ofNumber x3 h4) fun x4 h5 =>
some (x4, h5))
else
(gk_cv h4 a0 4 (f_Ar_ofRow a0 ((x1 / (2 : Int32)) - (1 : Int32)) h4) fun x5 h6 =>
gk_dop (FP.dadd x5 x3) fun x6 =>
gk_dop (FP.ddiv x6 (0x4000000000000000)) fun x7 =>
gk_ca (f_Va_ofNumber x7 h6) fun x8 h7 =>
some (x8, h7)))
def f_Su_extreme_b50 (b9 : Option Nat → Int32 → UInt64 → Int32 → gk_H → Option (UInt64 × gk_H)) (v0 : Option Nat) (v1 : Int32) (v2 : UInt64) (v4 : Int32) (h : gk_H) : Option (UInt64 × gk_H) :=
gk_let (v4 + (1 : Int32)) fun x1 =>
b9 v0 v1 v2 x1 h
def f_Su_extreme_b47 (b9 : Option Nat → Int32 → UInt64 → Int32 → gk_H → Option (UInt64 × gk_H)) (v0 : Option Nat) (v1 : Int32) (v4 : Int32) (v5 : UInt64) (h : gk_H) : Option (UInt64 × gk_H) :=
f_Su_extreme_b50 b9 v0 v1 v5 v4 h
def f_Su_extreme_b9  : Nat → Option Nat → Int32 → UInt64 → Int32 → gk_H → Option (UInt64 × gk_H)
  | 0 => fun _ _ _ _ _ => none
  | fu + 1 => fun v0 v1 v2 v4 h =>
gk_cv h v0 4 (f_Ar_inRow v0 h) fun x1 h1 =>
if x1 ≤ v4 then
(some (v2, h1))
else
(gk_cv h1 v0 4 (f_Ar_ofRow v0 v4 h1) fun x2 h2 =>
if v1 = 0 then
(if 0 ≤ (Op.cmpValue (FP.dcmp x2 v2) .g) then
(f_Su_extreme_b50 (f_Su_extreme_b9 fu) v0 v1 v2 v4 h2)
else
(f_Su_extreme_b47 (f_Su_extreme_b9 fu) v0 v1 v4 x2 h2))
else
(if (Op.cmpValue (FP.dcmp x2 v2) .l) ≤ 0 then
(f_Su_extreme_b50 (f_Su_extreme_b9 fu) v0 v1 v2 v4 h2)
else
(f_Su_extreme_b47 (f_Su_extreme_b9 fu) v0 v1 v4 x2 h2)))
def f_Su_extreme (a0 : Option Nat) (a1 : Int32) (h : gk_H) : Option (UInt64 × gk_H) :=
gk_cv h a0 4 (f_Ar_ofRow a0 (0 : Int32) h) fun x1 h1 =>
f_Su_extreme_b9 gk_F a0 a1 x1 (1 : Int32) h1
def f_Su_product_b44  (v1 : UInt64) (h : gk_H) : Option (UInt64 × gk_H) :=
some (v1, h)
def f_Su_product_b15  : Nat → Option Nat → UInt64 → Int32 → gk_H → Option (UInt64 × gk_H)
  | 0 => fun _ _ _ _ => none
  | fu + 1 => fun v0 v1 v3 h =>
gk_cv h v0 4 (f_Ar_inRow v0 h) fun x1 h1 =>
if x1 ≤ v3 then
(f_Su_product_b44 v1 h1)
else
(gk_ca (f_Va_isFinite v1 h1) fun x2 h2 =>
if x2 = 0 then
(f_Su_product_b44 v1 h2)
else
(gk_cv h2 v0 4 (f_Ar_ofRow v0 v3 h2) fun x3 h3 =>
gk_dop (FP.dmul v1 x3) fun x4 =>
gk_let (v3 + (1 : Int32)) fun x5 =>
(f_Su_product_b15 fu) v0 x4 x5 h3))
def f_Su_product_b12  (v0 : Option Nat) (s0 : UInt64) (h : gk_H) : Option (UInt64 × gk_H) :=
f_Su_product_b15 gk_F v0 s0 (0 : Int32) h
def f_Su_product (a0 : Option Nat) (h : gk_H) : Option (UInt64 × gk_H) :=
gk_cv h a0 4 (f_Ar_inRow a0 h) fun x1 h1 =>
if x1 = 0 then
(f_Su_product_b12 a0 (0x0000000000000000) h1)
else
(f_Su_product_b12 a0 (0x3ff0000000000000) h1)
def f_Su_ofRow_b149   (h : gk_H) : Option ((Option Nat) × gk_H) :=
gk_ca (f_Va_ofError (3 : Int32) h) fun x1 h1 =>
some (x1, h1)
def f_Su_ofRow_b117  (s0 : Option Nat) (s1 : Int32) (h : gk_H) : Option ((Option Nat) × gk_H) :=
gk_ca (f_Su_extreme s0 s1 h) fun x1 h1 =>
gk_ca (f_Va_ofNumber x1 h1) fun x2 h2 =>
some (x2, h2)
def f_Su_ofRow_b106  (v0 : Int32) (v1 : Option Nat) (h : gk_H) : Option ((Option Nat) × gk_H) :=
if v0 = (5 : Int32) then
(f_Su_ofRow_b117 v1 (1 : Int32) h)
else
(f_Su_ofRow_b117 v1 (0 : Int32) h)
def f_Su_ofRow (a0 : Int32) (a1 : Option Nat) (h : gk_H) : Option ((Option Nat) × gk_H) :=
if a0 = (0 : Int32) then
(gk_ca (f_Su_sum a1 h) fun x1 h1 =>
gk_ca (f_Va_ofNumber x1 h1) fun x2 h2 =>
some (x2, h2))
else if a0 = (1 : Int32) then
(gk_ca (f_Su_product a1 h) fun x3 h3 =>
gk_ca (f_Va_ofNumber x3 h3) fun x4 h4 =>
some (x4, h4))
else if a0 = (2 : Int32) then
(gk_ca (f_Su_sumOfSquares a1 (0x0000000000000000) h) fun x5 h5 =>
gk_ca (f_Va_ofNumber x5 h5) fun x6 h6 =>
some (x6, h6))
else if a0 = (3 : Int32) then
(gk_ca (f_Su_average a1 h) fun x7 h7 =>
some (x7, h7))
else if a0 = (4 : Int32) then
(f_Su_ofRow_b106 a0 a1 h)
else if a0 = (5 : Int32) then
(f_Su_ofRow_b106 a0 a1 h)
else if a0 = (6 : Int32) then
(f_Su_ofRow_b149 h)
else if a0 = (7 : Int32) then
(f_Su_ofRow_b149 h)
else if a0 = (8 : Int32) then
(f_Su_ofRow_b149 h)
else if a0 = (9 : Int32) then
(gk_ca (f_Su_median a1 h) fun x8 h8 =>
some (x8, h8))
else if a0 = (10 : Int32) then
(f_Su_ofRow_b149 h)
else if a0 = (11 : Int32) then
(f_Su_ofRow_b149 h)
else if a0 = (12 : Int32) then
(f_Su_ofRow_b149 h)
else if a0 = (13 : Int32) then
(gk_cv h a1 4 (f_Ar_inRow a1 h) fun x9 h9 =>
gk_ca (f_Su_variance a1 x9 h9) fun x10 h10 =>
some (x10, h10))
else if a0 = (14 : Int32) then
(gk_cv h a1 4 (f_Ar_inRow a1 h) fun x11 h11 =>
gk_ca (f_Su_variance a1 (x11 - (1 : Int32)) h11) fun x12 h12 =>
some (x12, h12))
else 
(f_Su_ofRow_b149 h)
def f_Su_answer_b96  (v0 : Int32) (v1 : Option Nat) (h : gk_H) : Option ((Option Nat) × gk_H) :=
gk_cv h v1 4 (f_Ar_gather v1 h) fun _ h1 =>
gk_ca (f_Su_ofRow v0 v1 h1) fun x1 h2 =>
some (x1, h2)
def f_Su_answer_b68  (v0 : Int32) (v1 : Option Nat) (h : gk_H) : Option ((Option Nat) × gk_H) :=
gk_ca (f_Su_counted v0 v1 h) fun x1 h1 =>
some (x1, h1)
def f_Su_answer_b74  (v0 : Int32) (v1 : Option Nat) (h : gk_H) : Option ((Option Nat) × gk_H) :=
gk_ca (f_Su_atRank v0 v1 h) fun x1 h1 =>
some (x1, h1)
def f_Su_answer_b90  (v0 : Int32) (v1 : Option Nat) (h : gk_H) : Option ((Option Nat) × gk_H) :=
gk_ca (f_Su_ofThoseMeeting v0 v1 h) fun x1 h1 =>
some (x1, h1)
def f_Su_answer (a0 : Int32) (a1 : Option Nat) (h : gk_H) : Option ((Option Nat) × gk_H) :=
if a0 = (6 : Int32) then
(f_Su_answer_b68 a0 a1 h)
else if a0 = (7 : Int32) then
(f_Su_answer_b68 a0 a1 h)
else if a0 = (8 : Int32) then
(f_Su_answer_b68 a0 a1 h)
else if a0 = (9 : Int32) then
(f_Su_answer_b96 a0 a1 h)
else if a0 = (10 : Int32) then
(f_Su_answer_b74 a0 a1 h)
else if a0 = (11 : Int32) then
(f_Su_answer_b74 a0 a1 h)
else if a0 = (12 : Int32) then
(gk_ca (f_Su_rank a1 h) fun x1 h1 =>
some (x1, h1))
else if a0 = (13 : Int32) then
(f_Su_answer_b96 a0 a1 h)
else if a0 = (14 : Int32) then
(f_Su_answer_b96 a0 a1 h)
else if a0 = (15 : Int32) then
(gk_ca (f_Su_sumOfProducts a1 h) fun x2 h2 =>
some (x2, h2))
else if a0 = (16 : Int32) then
(f_Su_answer_b90 a0 a1 h)
else if a0 = (17 : Int32) then
(f_Su_answer_b90 a0 a1 h)
else if a0 = (18 : Int32) then
(f_Su_answer_b90 a0 a1 h)
else 
(f_Su_answer_b96 a0 a1 h)
def f_Ar_wholeOr_b17  (s0 : Int64) (h : gk_H) : Option (Int64 × gk_H) :=
some (s0, h)
def f_Ar_wholeOr (a0 : Option Nat) (a1 : Int32) (a2 : Int64) (h : gk_H) : Option (Int64 × gk_H) :=
((gk_get h a0 4 2).bind gk_asI).bind fun x1 =>
if x1 ≤ a1 then
(f_Ar_wholeOr_b17 a2 h)
else
(gk_cv h a0 4 (f_Ar_whole a0 a1 h) fun x2 h1 =>
f_Ar_wholeOr_b17 x2 h1)
def f_Am_toPlaces_b16   (h : gk_H) : Option ((Option Nat) × gk_H) :=
gk_ca (f_Va_ofError (6 : Int32) h) fun x1 h1 =>
some (x1, h1)
def f_Am_toPlaces_b124  (s0 : UInt64) (h : gk_H) : Option ((Option Nat) × gk_H) :=
gk_ca (f_Va_ofNumber s0 h) fun x1 h1 =>
some (x1, h1)
def f_Am_toPlaces_b107  (v0 : UInt64) (s0 : UInt64) (h : gk_H) : Option ((Option Nat) × gk_H) :=
if 0 ≤ (Op.cmpValue (FP.dcmp v0 (0x0000000000000000)) .g) then
(f_Am_toPlaces_b124 s0 h)
else
(gk_dop (FP.dsub (0x0000000000000000) s0) fun x1 =>
f_Am_toPlaces_b124 x1 h)
def f_Am_toPlaces_b62  (v0 : UInt64) (v2 : Int64) (v4 : UInt64) (v6 : UInt64) (s0 : UInt64) (h : gk_H) : Option ((Option Nat) × gk_H) :=
gk_ca (f_Va_isFinite s0 h) fun x1 h1 =>
if x1 = 0 then
(gk_ca (f_Va_ofError (6 : Int32) h1) fun x2 h2 =>
some (x2, h2))
else
(gk_dop (FP.dadd s0 v4) fun x3 =>
gk_ca (f_Am_wholePart x3 h1) fun x4 h3 =>
if 0 ≤ (lg_cmp v2 (0 : Int64)) then
(gk_dop (FP.ddiv x4 v6) fun x5 =>
f_Am_toPlaces_b107 v0 x5 h3)
else
(gk_dop (FP.dmul x4 v6) fun x6 =>
f_Am_toPlaces_b107 v0 x6 h3))
def f_Am_toPlaces_b34  (v0 : UInt64) (v2 : Int64) (v4 : UInt64) (s0 : Int64) (h : gk_H) : Option ((Option Nat) × gk_H) :=
gk_ca (f_Am_tenTo s0 h) fun x1 h1 =>
if 0 ≤ (lg_cmp v2 (0 : Int64)) then
(gk_ca (f_Am_sizeOf v0 h1) fun x2 h2 =>
gk_dop (FP.dmul x2 x1) fun x3 =>
f_Am_toPlaces_b62 v0 v2 v4 x1 x3 h2)
else
(gk_ca (f_Am_sizeOf v0 h1) fun x4 h3 =>
gk_dop (FP.ddiv x4 x1) fun x5 =>
f_Am_toPlaces_b62 v0 v2 v4 x1 x5 h3)
def f_Am_toPlaces (a0 : UInt64) (a1 : Int64) (a2 : UInt64) (h : gk_H) : Option ((Option Nat) × gk_H) :=
if (lg_cmp a1 (-9 : Int64)) < 0 then
(f_Am_toPlaces_b16 h)
else
(if (lg_cmp a1 (9 : Int64)) ≤ 0 then
(if 0 ≤ (lg_cmp a1 (0 : Int64)) then
(f_Am_toPlaces_b34 a0 a1 a2 a1 h)
else
(f_Am_toPlaces_b34 a0 a1 a2 (-a1) h))
else
(f_Am_toPlaces_b16 h))
def f_Am_ceiling_b18  (s0 : UInt64) (h : gk_H) : Option (UInt64 × gk_H) :=
some (s0, h)
def f_Am_ceiling (a0 : UInt64) (h : gk_H) : Option (UInt64 × gk_H) :=
gk_ca (f_Am_wholePart a0 h) fun x1 h1 =>
if 0 ≤ (Op.cmpValue (FP.dcmp x1 a0) .g) then
(f_Am_ceiling_b18 x1 h1)
else
(gk_dop (FP.dadd x1 (0x3ff0000000000000)) fun x2 =>
f_Am_ceiling_b18 x2 h1)
def f_Am_floor_b18  (s0 : UInt64) (h : gk_H) : Option (UInt64 × gk_H) :=
some (s0, h)
def f_Am_floor (a0 : UInt64) (h : gk_H) : Option (UInt64 × gk_H) :=
gk_ca (f_Am_wholePart a0 h) fun x1 h1 =>
if (Op.cmpValue (FP.dcmp x1 a0) .l) ≤ 0 then
(f_Am_floor_b18 x1 h1)
else
(gk_dop (FP.dsub x1 (0x3ff0000000000000)) fun x2 =>
f_Am_floor_b18 x2 h1)
def f_Am_timesWhole_b30  (s0 : UInt64) (s1 : UInt64) (h : gk_H) : Option ((Option Nat) × gk_H) :=
gk_dop (FP.dmul s0 s1) fun x1 =>
gk_ca (f_Va_ofNumber x1 h) fun x2 h1 =>
some (x2, h1)
def f_Am_timesWhole (a0 : UInt64) (a1 : UInt64) (a2 : Int32) (h : gk_H) : Option ((Option Nat) × gk_H) :=
gk_ca (f_Va_isFinite a1 h) fun x1 h1 =>
if x1 = 0 then
(gk_ca (f_Va_ofError (6 : Int32) h1) fun x2 h2 =>
some (x2, h2))
else
(if a2 = 0 then
(gk_ca (f_Am_floor a1 h1) fun x3 h3 =>
f_Am_timesWhole_b30 a0 x3 h3)
else
(gk_ca (f_Am_ceiling a1 h1) fun x4 h4 =>
f_Am_timesWhole_b30 a0 x4 h4))
def f_Am_floorTo_b52  (s0 : Option Nat) (h : gk_H) : Option ((Option Nat) × gk_H) :=
some (s0, h)
def f_Am_floorTo_b44  (v0 : UInt64) (v2 : UInt64) (h : gk_H) : Option ((Option Nat) × gk_H) :=
gk_dop (FP.ddiv v0 v2) fun x1 =>
gk_ca (f_Am_timesWhole v2 x1 (0 : Int32) h) fun x2 h1 =>
f_Am_floorTo_b52 x2 h1
def f_Am_floorTo_b23  (s0 : Option Nat) (h : gk_H) : Option ((Option Nat) × gk_H) :=
some (s0, h)
def f_Am_floorTo (a0 : UInt64) (a1 : UInt64) (h : gk_H) : Option ((Option Nat) × gk_H) :=
if (Op.cmpValue (FP.dcmp a1 (0x0000000000000000)) .l) = 0 then
(if (Op.cmpValue (FP.dcmp a0 (0x0000000000000000)) .l) = 0 then
(gk_ca (f_Va_ofNumber (0x0000000000000000) h) fun x1 h1 =>
f_Am_floorTo_b23 x1 h1)
else
(gk_ca (f_Va_ofError (2 : Int32) h) fun x2 h2 =>
f_Am_floorTo_b23 x2 h2))
else
(if (Op.cmpValue (FP.dcmp a0 (0x0000000000000000)) .l) ≤ 0 then
(f_Am_floorTo_b44 a0 a1 h)
else
(if 0 ≤ (Op.cmpValue (FP.dcmp a1 (0x0000000000000000)) .g) then
(f_Am_floorTo_b44 a0 a1 h)
else
(gk_ca (f_Va_ofError (6 : Int32) h) fun x3 h3 =>
f_Am_floorTo_b52 x3 h3)))
def f_Am_ceilingTo_b39  (s0 : Option Nat) (h : gk_H) : Option ((Option Nat) × gk_H) :=
some (s0, h)
def f_Am_ceilingTo_b31  (v0 : UInt64) (v2 : UInt64) (h : gk_H) : Option ((Option Nat) × gk_H) :=
gk_dop (FP.ddiv v0 v2) fun x1 =>
gk_ca (f_Am_timesWhole v2 x1 (1 : Int32) h) fun x2 h1 =>
f_Am_ceilingTo_b39 x2 h1
def f_Am_ceilingTo (a0 : UInt64) (a1 : UInt64) (h : gk_H) : Option ((Option Nat) × gk_H) :=
if (Op.cmpValue (FP.dcmp a1 (0x0000000000000000)) .l) = 0 then
(gk_ca (f_Va_ofNumber (0x0000000000000000) h) fun x1 h1 =>
some (x1, h1))
else
(if (Op.cmpValue (FP.dcmp a0 (0x0000000000000000)) .l) ≤ 0 then
(f_Am_ceilingTo_b31 a0 a1 h)
else
(if 0 ≤ (Op.cmpValue (FP.dcmp a1 (0x0000000000000000)) .g) then
(f_Am_ceilingTo_b31 a0 a1 h)
else
(gk_ca (f_Va_ofError (6 : Int32) h) fun x2 h2 =>
f_Am_ceilingTo_b39 x2 h2)))
def f_Am_sign_b21  (s0 : Int32) (h : gk_H) : Option (Int32 × gk_H) :=
some (s0, h)
def f_Am_sign (a0 : UInt64) (h : gk_H) : Option (Int32 × gk_H) :=
if 0 ≤ (Op.cmpValue (FP.dcmp a0 (0x0000000000000000)) .g) then
(if (Op.cmpValue (FP.dcmp a0 (0x0000000000000000)) .l) ≤ 0 then
(f_Am_sign_b21 (0 : Int32) h)
else
(f_Am_sign_b21 (1 : Int32) h))
else
(f_Am_sign_b21 (-1 : Int32) h)
def f_Am_odd_b54  (s0 : UInt64) (h : gk_H) : Option ((Option Nat) × gk_H) :=
gk_ca (f_Va_ofNumber s0 h) fun x1 h1 =>
some (x1, h1)
def f_Am_odd (a0 : UInt64) (h : gk_H) : Option ((Option Nat) × gk_H) :=
gk_ca (f_Am_isWithinWhole a0 h) fun x1 h1 =>
if x1 = 0 then
(gk_ca (f_Am_sign a0 h1) fun x2 h2 =>
gk_dop (FP.dadd a0 (FP.i2d x2)) fun x3 =>
gk_ca (f_Va_ofNumber x3 h2) fun x4 h3 =>
some (x4, h3))
else
(gk_ca (f_Am_sizeOf a0 h1) fun x5 h4 =>
gk_ca (f_Am_ceiling x5 h4) fun x6 h5 =>
gk_let (FP.d2l x6) fun x7 =>
gk_let (FP.l2d ((x7 + (1 : Int64)) - (x7 - x7 / (2 : Int64) * (2 : Int64)))) fun x8 =>
if 0 ≤ (Op.cmpValue (FP.dcmp a0 (0x0000000000000000)) .g) then
(f_Am_odd_b54 x8 h5)
else
(gk_dop (FP.dsub (0x0000000000000000) x8) fun x9 =>
f_Am_odd_b54 x9 h5))
def f_Am_even (a0 : UInt64) (h : gk_H) : Option ((Option Nat) × gk_H) :=
gk_ca (f_Am_isWithinWhole a0 h) fun x1 h1 =>
if x1 = 0 then
(gk_ca (f_Va_ofNumber a0 h1) fun x2 h2 =>
some (x2, h2))
else
(gk_ca (f_Am_sizeOf a0 h1) fun x3 h3 =>
gk_ca (f_Am_ceiling x3 h3) fun x4 h4 =>
gk_let (FP.d2l x4) fun x5 =>
gk_ca (f_Am_sign a0 h4) fun x6 h5 =>
gk_dop (FP.dmul (FP.i2d x6) (FP.l2d (x5 + (x5 - x5 / (2 : Int64) * (2 : Int64))))) fun x7 =>
gk_ca (f_Va_ofNumber x7 h5) fun x8 h6 =>
some (x8, h6))
def f_Am_combinations_b20   (h : gk_H) : Option ((Option Nat) × gk_H) :=
gk_ca (f_Va_ofError (6 : Int32) h) fun x1 h1 =>
some (x1, h1)
def f_Am_combinations_b32  : Nat → Int64 → Int64 → UInt64 → Int32 → gk_H → Option ((Option Nat) × gk_H)
  | 0 => fun _ _ _ _ _ => none
  | fu + 1 => fun v0 v2 v4 v6 h =>
if 0 < (lg_cmp (Int32.toInt64 v6) v2) then
(gk_ca (f_Va_ofNumber v4 h) fun x1 h1 =>
some (x1, h1))
else
(gk_dop (FP.dmul v4 (FP.l2d ((v0 - v2) + (Int32.toInt64 v6)))) fun x2 =>
gk_dop (FP.ddiv x2 (FP.i2d v6)) fun x3 =>
gk_let (v6 + (1 : Int32)) fun x4 =>
(f_Am_combinations_b32 fu) v0 v2 x3 x4 h)
def f_Am_combinations (a0 : Int64) (a1 : Int64) (h : gk_H) : Option ((Option Nat) × gk_H) :=
if (lg_cmp a1 (0 : Int64)) < 0 then
(f_Am_combinations_b20 h)
else
(if 0 < (lg_cmp a1 a0) then
(f_Am_combinations_b20 h)
else
(if (lg_cmp a0 (1000 : Int64)) ≤ 0 then
(f_Am_combinations_b32 gk_F a0 a1 (0x3ff0000000000000) (1 : Int32) h)
else
(f_Am_combinations_b20 h)))
def f_Am_factorial_b14   (h : gk_H) : Option ((Option Nat) × gk_H) :=
gk_ca (f_Va_ofError (6 : Int32) h) fun x1 h1 =>
some (x1, h1)
def f_Am_factorial_b25  : Nat → Int64 → UInt64 → Int32 → gk_H → Option ((Option Nat) × gk_H)
  | 0 => fun _ _ _ _ => none
  | fu + 1 => fun v0 v2 v4 h =>
if 0 < (lg_cmp (Int32.toInt64 v4) v0) then
(gk_ca (f_Va_ofNumber v2 h) fun x1 h1 =>
some (x1, h1))
else
(gk_dop (FP.dmul v2 (FP.i2d v4)) fun x2 =>
gk_let (v4 + (1 : Int32)) fun x3 =>
(f_Am_factorial_b25 fu) v0 x2 x3 h)
def f_Am_factorial (a0 : Int64) (h : gk_H) : Option ((Option Nat) × gk_H) :=
if (lg_cmp a0 (0 : Int64)) < 0 then
(f_Am_factorial_b14 h)
else
(if (lg_cmp a0 (170 : Int64)) ≤ 0 then
(f_Am_factorial_b25 gk_F a0 (0x3ff0000000000000) (2 : Int32) h)
else
(f_Am_factorial_b14 h))
def f_Am_commonDivisor_b45  (v4 : Int64) (h : gk_H) : Option (Int64 × gk_H) :=
some (v4, h)
def f_Am_commonDivisor_b9  : Nat → Int64 → Int64 → Int32 → gk_H → Option (Int64 × gk_H)
  | 0 => fun _ _ _ _ => none
  | fu + 1 => fun v4 v6 v8 h =>
if (200 : Int32) ≤ v8 then
(f_Am_commonDivisor_b45 v4 h)
else
(if (lg_cmp v6 (0 : Int64)) = 0 then
(f_Am_commonDivisor_b45 v4 h)
else
(if v6 = 0 then none else
gk_let (v4 - v4 / v6 * v6) fun x1 =>
gk_let (v8 + (1 : Int32)) fun x2 =>
(f_Am_commonDivisor_b9 fu) v6 x1 x2 h))
def f_Am_commonDivisor (a0 : Int64) (a1 : Int64) (h : gk_H) : Option (Int64 × gk_H) :=
f_Am_commonDivisor_b9 gk_F a0 a1 (0 : Int32) h
def f_Am_commonMultiple_b63   (h : gk_H) : Option ((Option Nat) × gk_H) :=
gk_ca (f_Va_ofError (6 : Int32) h) fun x1 h1 =>
some (x1, h1)
def f_Am_commonMultiple_b43 (b4 : Option Nat → Int64 → Int32 → gk_H → Option ((Option Nat) × gk_H)) (v0 : Option Nat) (v1 : Int64) (v3 : Int32) (s0 : Int64) (h : gk_H) : Option ((Option Nat) × gk_H) :=
if (lg_cmp s0 (1 : Int64)) < 0 then
(f_Am_commonMultiple_b63 h)
else
(if s0 = 0 then none else
if (lg_cmp v1 ((9007199254740991 : Int64) / s0)) ≤ 0 then
(gk_let (v1 * s0) fun x1 =>
gk_let (v3 + (1 : Int32)) fun x2 =>
b4 v0 x1 x2 h)
else
(f_Am_commonMultiple_b63 h))
def f_Am_commonMultiple_b4  : Nat → Option Nat → Int64 → Int32 → gk_H → Option ((Option Nat) × gk_H)
  | 0 => fun _ _ _ _ => none
  | fu + 1 => fun v0 v1 v3 h =>
gk_cv h v0 4 (f_Ar_howMany v0 h) fun x1 h1 =>
if x1 ≤ v3 then
(gk_ca (f_Va_ofNumber (FP.l2d v1) h1) fun x2 h2 =>
some (x2, h2))
else
(gk_cv h1 v0 4 (f_Ar_whole v0 v3 h1) fun x3 h3 =>
gk_ca (f_Am_commonDivisor v1 x3 h3) fun x4 h4 =>
if (lg_cmp x4 (0 : Int64)) = 0 then
(f_Am_commonMultiple_b43 (f_Am_commonMultiple_b4 fu) v0 v1 v3 (0 : Int64) h4)
else
(if x4 = 0 then none else
f_Am_commonMultiple_b43 (f_Am_commonMultiple_b4 fu) v0 v1 v3 (x3 / x4) h4))
def f_Am_commonMultiple (a0 : Option Nat) (h : gk_H) : Option ((Option Nat) × gk_H) :=
f_Am_commonMultiple_b4 gk_F a0 (1 : Int64) (0 : Int32) h
def f_Am_ofDivisors_b114  (s0 : Option Nat) (h : gk_H) : Option ((Option Nat) × gk_H) :=
some (s0, h)
def f_Am_ofDivisors_b60 (b10 : Int32 → Option Nat → Int32 → Int32 → Int64 → Int32 → gk_H → Option ((Option Nat) × gk_H)) (v0 : Int32) (v1 : Option Nat) (v2 : Int32) (v4 : Int64) (v6 : Int32) (v7 : Int64) (s0 : Int32) (h : gk_H) : Option ((Option Nat) × gk_H) :=
gk_ca (f_Am_commonDivisor v4 v7 h) fun x1 h1 =>
gk_let (v6 + (1 : Int32)) fun x2 =>
b10 v0 v1 v2 s0 x1 x2 h1
def f_Am_ofDivisors_b55 (b10 : Int32 → Option Nat → Int32 → Int32 → Int64 → Int32 → gk_H → Option ((Option Nat) × gk_H)) (v0 : Int32) (v1 : Option Nat) (v2 : Int32) (v4 : Int64) (v6 : Int32) (v7 : Int64) (h : gk_H) : Option ((Option Nat) × gk_H) :=
f_Am_ofDivisors_b60 b10 v0 v1 v2 v4 v6 v7 (1 : Int32) h
def f_Am_ofDivisors_b43 (b10 : Int32 → Option Nat → Int32 → Int32 → Int64 → Int32 → gk_H → Option ((Option Nat) × gk_H)) (v0 : Int32) (v1 : Option Nat) (v3 : Int32) (v4 : Int64) (v6 : Int32) (v7 : Int64) (s0 : Int32) (h : gk_H) : Option ((Option Nat) × gk_H) :=
if v3 = 0 then
(if (lg_cmp v7 (0 : Int64)) = 0 then
(f_Am_ofDivisors_b55 b10 v0 v1 s0 v4 v6 v7 h)
else
(f_Am_ofDivisors_b60 b10 v0 v1 s0 v4 v6 v7 (0 : Int32) h))
else
(f_Am_ofDivisors_b55 b10 v0 v1 s0 v4 v6 v7 h)
def f_Am_ofDivisors_b38 (b10 : Int32 → Option Nat → Int32 → Int32 → Int64 → Int32 → gk_H → Option ((Option Nat) × gk_H)) (v0 : Int32) (v1 : Option Nat) (v3 : Int32) (v4 : Int64) (v6 : Int32) (v7 : Int64) (h : gk_H) : Option ((Option Nat) × gk_H) :=
f_Am_ofDivisors_b43 b10 v0 v1 v3 v4 v6 v7 (1 : Int32) h
def f_Am_ofDivisors_b10  : Nat → Int32 → Option Nat → Int32 → Int32 → Int64 → Int32 → gk_H → Option ((Option Nat) × gk_H)
  | 0 => fun _ _ _ _ _ _ _ => none
  | fu + 1 => fun v0 v1 v2 v3 v4 v6 h =>
gk_cv h v1 4 (f_Ar_howMany v1 h) fun x1 h1 =>
if x1 ≤ v6 then
(if v2 = 0 then
(if v0 = (25 : Int32) then
(gk_ca (f_Va_ofNumber (FP.l2d v4) h1) fun x2 h2 =>
some (x2, h2))
else
(if v3 = 0 then
(gk_ca (f_Am_commonMultiple v1 h1) fun x3 h3 =>
f_Am_ofDivisors_b114 x3 h3)
else
(gk_ca (f_Va_ofNumber (0x0000000000000000) h1) fun x4 h4 =>
f_Am_ofDivisors_b114 x4 h4)))
else
(gk_ca (f_Va_ofError (6 : Int32) h1) fun x5 h5 =>
some (x5, h5)))
else
(gk_cv h1 v1 4 (f_Ar_whole v1 v6 h1) fun x6 h6 =>
if v2 = 0 then
(if 0 ≤ (lg_cmp x6 (0 : Int64)) then
(f_Am_ofDivisors_b43 (f_Am_ofDivisors_b10 fu) v0 v1 v3 v4 v6 x6 (0 : Int32) h6)
else
(f_Am_ofDivisors_b38 (f_Am_ofDivisors_b10 fu) v0 v1 v3 v4 v6 x6 h6))
else
(f_Am_ofDivisors_b38 (f_Am_ofDivisors_b10 fu) v0 v1 v3 v4 v6 x6 h6))
def f_Am_ofDivisors (a0 : Int32) (a1 : Option Nat) (h : gk_H) : Option ((Option Nat) × gk_H) :=
f_Am_ofDivisors_b10 gk_F a0 a1 (0 : Int32) (0 : Int32) (0 : Int64) (0 : Int32) h
def f_Am_quotient (a0 : UInt64) (a1 : UInt64) (h : gk_H) : Option ((Option Nat) × gk_H) :=
if (Op.cmpValue (FP.dcmp a1 (0x0000000000000000)) .l) = 0 then
(gk_ca (f_Va_ofError (2 : Int32) h) fun x1 h1 =>
some (x1, h1))
else
(gk_dop (FP.ddiv a0 a1) fun x2 =>
gk_ca (f_Am_wholePart x2 h) fun x3 h2 =>
gk_ca (f_Va_ofNumber x3 h2) fun x4 h3 =>
some (x4, h3))
def f_Am_modulo (a0 : UInt64) (a1 : UInt64) (h : gk_H) : Option ((Option Nat) × gk_H) :=
if (Op.cmpValue (FP.dcmp a1 (0x0000000000000000)) .l) = 0 then
(gk_ca (f_Va_ofError (2 : Int32) h) fun x1 h1 =>
some (x1, h1))
else
(gk_dop (FP.ddiv a0 a1) fun x2 =>
gk_ca (f_Va_isFinite x2 h) fun x3 h2 =>
if x3 = 0 then
(gk_ca (f_Va_ofError (6 : Int32) h2) fun x4 h3 =>
some (x4, h3))
else
(gk_ca (f_Am_floor x2 h2) fun x5 h4 =>
gk_dop (FP.dmul a1 x5) fun x6 =>
gk_dop (FP.dsub a0 x6) fun x7 =>
gk_ca (f_Va_ofNumber x7 h4) fun x8 h5 =>
some (x8, h5)))
def f_Am_answer_b159  (v0 : Int32) (v1 : Option Nat) (h : gk_H) : Option ((Option Nat) × gk_H) :=
gk_ca (f_Am_ofDivisors v0 v1 h) fun x1 h1 =>
some (x1, h1)
def f_Am_answer (a0 : Int32) (a1 : Option Nat) (h : gk_H) : Option ((Option Nat) × gk_H) :=
if a0 = (19 : Int32) then
(gk_cv h a1 4 (f_Ar_amount a1 (0 : Int32) h) fun x1 h1 =>
gk_ca (f_Am_sizeOf x1 h1) fun x2 h2 =>
gk_ca (f_Va_ofNumber x2 h2) fun x3 h3 =>
some (x3, h3))
else if a0 = (20 : Int32) then
(gk_cv h a1 4 (f_Ar_amount a1 (0 : Int32) h) fun x4 h4 =>
gk_ca (f_Am_sign x4 h4) fun x5 h5 =>
gk_ca (f_Va_ofNumber (FP.i2d x5) h5) fun x6 h6 =>
some (x6, h6))
else if a0 = (21 : Int32) then
(gk_cv h a1 4 (f_Ar_amount a1 (0 : Int32) h) fun x7 h7 =>
gk_ca (f_Am_floor x7 h7) fun x8 h8 =>
gk_ca (f_Va_ofNumber x8 h8) fun x9 h9 =>
some (x9, h9))
else if a0 = (22 : Int32) then
(gk_cv h a1 4 (f_Ar_amount a1 (0 : Int32) h) fun x10 h10 =>
gk_cv h10 a1 4 (f_Ar_amount a1 (1 : Int32) h10) fun x11 h11 =>
gk_ca (f_Am_power x10 x11 h11) fun x12 h12 =>
some (x12, h12))
else if a0 = (23 : Int32) then
(gk_cv h a1 4 (f_Ar_amount a1 (0 : Int32) h) fun x13 h13 =>
gk_cv h13 a1 4 (f_Ar_amount a1 (1 : Int32) h13) fun x14 h14 =>
gk_ca (f_Am_modulo x13 x14 h14) fun x15 h15 =>
some (x15, h15))
else if a0 = (24 : Int32) then
(gk_cv h a1 4 (f_Ar_amount a1 (0 : Int32) h) fun x16 h16 =>
gk_cv h16 a1 4 (f_Ar_amount a1 (1 : Int32) h16) fun x17 h17 =>
gk_ca (f_Am_quotient x16 x17 h17) fun x18 h18 =>
some (x18, h18))
else if a0 = (25 : Int32) then
(f_Am_answer_b159 a0 a1 h)
else if a0 = (26 : Int32) then
(f_Am_answer_b159 a0 a1 h)
else if a0 = (27 : Int32) then
(gk_cv h a1 4 (f_Ar_whole a1 (0 : Int32) h) fun x19 h19 =>
gk_ca (f_Am_factorial x19 h19) fun x20 h20 =>
some (x20, h20))
else if a0 = (28 : Int32) then
(gk_cv h a1 4 (f_Ar_whole a1 (0 : Int32) h) fun x21 h21 =>
gk_cv h21 a1 4 (f_Ar_whole a1 (1 : Int32) h21) fun x22 h22 =>
gk_ca (f_Am_combinations x21 x22 h22) fun x23 h23 =>
some (x23, h23))
else if a0 = (29 : Int32) then
(gk_cv h a1 4 (f_Ar_amount a1 (0 : Int32) h) fun x24 h24 =>
gk_ca (f_Am_even x24 h24) fun x25 h25 =>
some (x25, h25))
else if a0 = (30 : Int32) then
(gk_cv h a1 4 (f_Ar_amount a1 (0 : Int32) h) fun x26 h26 =>
gk_ca (f_Am_odd x26 h26) fun x27 h27 =>
some (x27, h27))
else if a0 = (31 : Int32) then
(gk_cv h a1 4 (f_Ar_amount a1 (0 : Int32) h) fun x28 h28 =>
gk_cv h28 a1 4 (f_Ar_amount a1 (1 : Int32) h28) fun x29 h29 =>
gk_ca (f_Am_ceilingTo x28 x29 h29) fun x30 h30 =>
some (x30, h30))
else if a0 = (32 : Int32) then
(gk_cv h a1 4 (f_Ar_amount a1 (0 : Int32) h) fun x31 h31 =>
gk_cv h31 a1 4 (f_Ar_amount a1 (1 : Int32) h31) fun x32 h32 =>
gk_ca (f_Am_floorTo x31 x32 h32) fun x33 h33 =>
some (x33, h33))
else if a0 = (33 : Int32) then
(gk_cv h a1 4 (f_Ar_amount a1 (0 : Int32) h) fun x34 h34 =>
gk_cv h34 a1 4 (f_Ar_wholeOr a1 (1 : Int32) (0 : Int64) h34) fun x35 h35 =>
gk_ca (f_Am_toPlaces x34 x35 (0x0000000000000000) h35) fun x36 h36 =>
some (x36, h36))
else if a0 = (34 : Int32) then
(gk_cv h a1 4 (f_Ar_amount a1 (0 : Int32) h) fun x37 h37 =>
gk_cv h37 a1 4 (f_Ar_wholeOr a1 (1 : Int32) (0 : Int64) h37) fun x38 h38 =>
gk_ca (f_Am_toPlaces x37 x38 (0x3fe0000000000000) h38) fun x39 h39 =>
some (x39, h39))
else 
(gk_ca (f_Va_ofError (3 : Int32) h) fun x40 h40 =>
some (x40, h40))
def f_Ch_errorNumber_b24  (s0 : Option Nat) (h : gk_H) : Option ((Option Nat) × gk_H) :=
some (s0, h)
def f_Ch_errorNumber (a0 : Option Nat) (h : gk_H) : Option ((Option Nat) × gk_H) :=
((gk_get h a0 2 0).bind gk_asI).bind fun x1 =>
if x1 = (4 : Int32) then
(((gk_get h a0 2 1).bind gk_asI).bind fun x2 =>
gk_ca (f_Va_ofNumber (FP.i2d x2) h) fun x3 h1 =>
f_Ch_errorNumber_b24 x3 h1)
else
(gk_ca (f_Va_ofError (7 : Int32) h) fun x4 h2 =>
f_Ch_errorNumber_b24 x4 h2)
def f_Ch_typeOf (a0 : Option Nat) (h : gk_H) : Option (Int32 × gk_H) :=
((gk_get h a0 2 0).bind gk_asI).bind fun x1 =>
if x1 = (2 : Int32) then
(some ((2 : Int32), h))
else if x1 = (3 : Int32) then
(some ((4 : Int32), h))
else if x1 = (4 : Int32) then
(some ((16 : Int32), h))
else if x1 = (5 : Int32) then
(some ((64 : Int32), h))
else 
(some ((1 : Int32), h))
def f_Ch_asNumber_b20  (s0 : UInt64) (h : gk_H) : Option ((Option Nat) × gk_H) :=
gk_ca (f_Va_ofNumber s0 h) fun x1 h1 =>
some (x1, h1)
def f_Ch_asNumber (a0 : Option Nat) (h : gk_H) : Option ((Option Nat) × gk_H) :=
((gk_get h a0 2 0).bind gk_asI).bind fun x1 =>
if x1 = (3 : Int32) then
(((gk_get h a0 2 1).bind gk_asI).bind fun x2 =>
f_Ch_asNumber_b20 (FP.i2d x2) h)
else
(((gk_get h a0 2 2).bind gk_asD).bind fun x3 =>
f_Ch_asNumber_b20 x3 h)
def f_Ar_truth_b84  (v3 : Int32) (h : gk_H) : Option (Int32 × gk_H) :=
if narrow .boolean (.int v3) = .int v3 then some (v3, h) else none
def f_Ar_truth_b62  (v0 : Option Nat) (v2 : Option Nat) (s0 : Int32) (h : gk_H) : Option (Int32 × gk_H) :=
if s0 = 0 then
(((gk_get h v2 2 3).bind gk_asR).bind fun x1 =>
gk_ca (f_Le_order x1 (some 8) h) fun x2 h1 =>
if x2 = 0 then
(f_Ar_truth_b84 s0 h1)
else
(gk_cv h1 v0 4 (f_Ar_blame v0 (3 : Int32) h1) fun _ h2 =>
f_Ar_truth_b84 s0 h2))
else
(f_Ar_truth_b84 s0 h)
def f_Ar_truth_b44  (s0 : Int32) (h : gk_H) : Option (Int32 × gk_H) :=
if narrow .boolean (.int s0) = .int s0 then some (s0, h) else none
def f_Ar_truth_b39   (h : gk_H) : Option (Int32 × gk_H) :=
f_Ar_truth_b44 (1 : Int32) h
def f_Ar_truth_b43   (h : gk_H) : Option (Int32 × gk_H) :=
f_Ar_truth_b44 (0 : Int32) h
def f_Ar_truth (a0 : Option Nat) (a1 : Int32) (h : gk_H) : Option (Int32 × gk_H) :=
gk_cv h a0 4 (f_Ar_sound a0 a1 h) fun x1 h1 =>
((gk_get h1 x1 2 0).bind gk_asI).bind fun x2 =>
if x2 = (2 : Int32) then
(((gk_get h1 x1 2 3).bind gk_asR).bind fun x3 =>
gk_ca (f_Le_order x3 (some 6) h1) fun x4 h2 =>
if x4 = 0 then
(f_Ar_truth_b62 a0 x1 (1 : Int32) h2)
else
(f_Ar_truth_b62 a0 x1 (0 : Int32) h2))
else
(((gk_get h1 x1 2 2).bind gk_asD).bind fun x5 =>
if (Op.cmpValue (FP.dcmp x5 (0x0000000000000000)) .l) = 0 then
(((gk_get h1 x1 2 0).bind gk_asI).bind fun x6 =>
if x6 = (3 : Int32) then
(((gk_get h1 x1 2 1).bind gk_asI).bind fun x7 =>
if x7 = (1 : Int32) then
(f_Ar_truth_b39 h1)
else
(f_Ar_truth_b43 h1))
else
(f_Ar_truth_b43 h1))
else
(f_Ar_truth_b39 h1))
def f_Ch_truthCells_b89 (b4 : Option Nat → Int32 → Int32 → Int32 → gk_H → Option (Int32 × gk_H)) (v0 : Option Nat) (v1 : Int32) (v3 : Int32) (s0 : Int32) (s1 : Int32) (h : gk_H) : Option (Int32 × gk_H) :=
gk_let (s0 + s1) fun x1 =>
gk_let (v3 + (1 : Int32)) fun x2 =>
b4 v0 v1 x1 x2 h
def f_Ch_truthCells_b88 (b4 : Option Nat → Int32 → Int32 → Int32 → gk_H → Option (Int32 × gk_H)) (v0 : Option Nat) (v1 : Int32) (v3 : Int32) (s0 : Int32) (h : gk_H) : Option (Int32 × gk_H) :=
f_Ch_truthCells_b89 b4 v0 v1 v3 s0 (0 : Int32) h
def f_Ch_truthCells_b84 (b4 : Option Nat → Int32 → Int32 → Int32 → gk_H → Option (Int32 × gk_H)) (v0 : Option Nat) (v1 : Int32) (v3 : Int32) (s0 : Int32) (h : gk_H) : Option (Int32 × gk_H) :=
f_Ch_truthCells_b89 b4 v0 v1 v3 s0 (1 : Int32) h
def f_Ch_truthCells_b67 (b4 : Option Nat → Int32 → Int32 → Int32 → gk_H → Option (Int32 × gk_H)) (v0 : Option Nat) (v1 : Int32) (v2 : Int32) (v3 : Int32) (v5 : Int32) (s0 : Int32) (h : gk_H) : Option (Int32 × gk_H) :=
if v5 = 0 then
(f_Ch_truthCells_b88 b4 v0 v1 v3 v2 h)
else
(if s0 = 0 then
(if v1 = 0 then
(f_Ch_truthCells_b84 b4 v0 v1 v3 v2 h)
else
(f_Ch_truthCells_b88 b4 v0 v1 v3 v2 h))
else
(f_Ch_truthCells_b84 b4 v0 v1 v3 v2 h))
def f_Ch_truthCells_b62 (b4 : Option Nat → Int32 → Int32 → Int32 → gk_H → Option (Int32 × gk_H)) (v0 : Option Nat) (v1 : Int32) (v2 : Int32) (v3 : Int32) (v5 : Int32) (h : gk_H) : Option (Int32 × gk_H) :=
f_Ch_truthCells_b67 b4 v0 v1 v2 v3 v5 (1 : Int32) h
def f_Ch_truthCells_b42 (b4 : Option Nat → Int32 → Int32 → Int32 → gk_H → Option (Int32 × gk_H)) (v0 : Option Nat) (v1 : Int32) (v2 : Int32) (v3 : Int32) (v4 : Option Nat) (s0 : Int32) (h : gk_H) : Option (Int32 × gk_H) :=
((gk_get h v4 2 2).bind gk_asD).bind fun x1 =>
if (Op.cmpValue (FP.dcmp x1 (0x0000000000000000)) .l) = 0 then
(((gk_get h v4 2 1).bind gk_asI).bind fun x2 =>
if x2 = 0 then
(f_Ch_truthCells_b67 b4 v0 v1 v2 v3 s0 (0 : Int32) h)
else
(f_Ch_truthCells_b62 b4 v0 v1 v2 v3 s0 h))
else
(f_Ch_truthCells_b62 b4 v0 v1 v2 v3 s0 h)
def f_Ch_truthCells_b37 (b4 : Option Nat → Int32 → Int32 → Int32 → gk_H → Option (Int32 × gk_H)) (v0 : Option Nat) (v1 : Int32) (v2 : Int32) (v3 : Int32) (v4 : Option Nat) (h : gk_H) : Option (Int32 × gk_H) :=
f_Ch_truthCells_b42 b4 v0 v1 v2 v3 v4 (1 : Int32) h
def f_Ch_truthCells_b4  : Nat → Option Nat → Int32 → Int32 → Int32 → gk_H → Option (Int32 × gk_H)
  | 0 => fun _ _ _ _ _ => none
  | fu + 1 => fun v0 v1 v2 v3 h =>
gk_cv h v0 2 (f_Va_howManyCells v0 h) fun x1 h1 =>
if x1 ≤ v3 then
(some (v2, h1))
else
(gk_cv h1 v0 2 (f_Va_cellAt v0 v3 h1) fun x2 h2 =>
((gk_get h2 x2 2 0).bind gk_asI).bind fun x3 =>
if x3 = (1 : Int32) then
(f_Ch_truthCells_b37 (f_Ch_truthCells_b4 fu) v0 v1 v2 v3 x2 h2)
else
(((gk_get h2 x2 2 0).bind gk_asI).bind fun x4 =>
if x4 = (3 : Int32) then
(f_Ch_truthCells_b37 (f_Ch_truthCells_b4 fu) v0 v1 v2 v3 x2 h2)
else
(f_Ch_truthCells_b42 (f_Ch_truthCells_b4 fu) v0 v1 v2 v3 x2 (0 : Int32) h2)))
def f_Ch_truthCells (a0 : Option Nat) (a1 : Int32) (h : gk_H) : Option (Int32 × gk_H) :=
f_Ch_truthCells_b4 gk_F a0 a1 (0 : Int32) (0 : Int32) h
def f_Ch_ofTruths_b163  (s0 : Int32) (h : gk_H) : Option ((Option Nat) × gk_H) :=
gk_ca (f_Va_ofTruth s0 h) fun x1 h1 =>
some (x1, h1)
def f_Ch_ofTruths_b134  (s0 : Int32) (h : gk_H) : Option ((Option Nat) × gk_H) :=
gk_ca (f_Va_ofTruth s0 h) fun x1 h1 =>
some (x1, h1)
def f_Ch_ofTruths_b147  (s0 : Int32) (h : gk_H) : Option ((Option Nat) × gk_H) :=
gk_ca (f_Va_ofTruth s0 h) fun x1 h1 =>
some (x1, h1)
def f_Ch_ofTruths_b80 (b7 : Int32 → Option Nat → Int32 → Int32 → Int32 → gk_H → Option ((Option Nat) × gk_H)) (v0 : Int32) (v1 : Option Nat) (v2 : Int32) (v3 : Int32) (v4 : Int32) (h : gk_H) : Option ((Option Nat) × gk_H) :=
gk_let (v4 + (1 : Int32)) fun x1 =>
b7 v0 v1 v2 v3 x1 h
def f_Ch_ofTruths_b78 (b7 : Int32 → Option Nat → Int32 → Int32 → Int32 → gk_H → Option ((Option Nat) × gk_H)) (v0 : Int32) (v1 : Option Nat) (v2 : Int32) (v4 : Int32) (s0 : Int32) (s1 : Int32) (h : gk_H) : Option ((Option Nat) × gk_H) :=
gk_let (s0 + s1) fun x1 =>
f_Ch_ofTruths_b80 b7 v0 v1 v2 x1 v4 h
def f_Ch_ofTruths_b7  : Nat → Int32 → Option Nat → Int32 → Int32 → Int32 → gk_H → Option ((Option Nat) × gk_H)
  | 0 => fun _ _ _ _ _ _ => none
  | fu + 1 => fun v0 v1 v2 v3 v4 h =>
gk_cv h v1 4 (f_Ar_howMany v1 h) fun x1 h1 =>
if x1 ≤ v4 then
(if v2 = 0 then
(gk_ca (f_Va_ofError (3 : Int32) h1) fun x2 h2 =>
some (x2, h2))
else
(if v0 = (39 : Int32) then
(if v3 = v2 then
(f_Ch_ofTruths_b134 (1 : Int32) h1)
else
(f_Ch_ofTruths_b134 (0 : Int32) h1))
else if v0 = (40 : Int32) then
(if v3 ≤ 0 then
(f_Ch_ofTruths_b147 (0 : Int32) h1)
else
(f_Ch_ofTruths_b147 (1 : Int32) h1))
else 
(if (v3 - v3 / (2 : Int32) * (2 : Int32)) = (1 : Int32) then
(f_Ch_ofTruths_b163 (1 : Int32) h1)
else
(f_Ch_ofTruths_b163 (0 : Int32) h1))))
else
(gk_cv h1 v1 4 (f_Ar_raw v1 v4 h1) fun x3 h3 =>
((gk_get h3 x3 2 0).bind gk_asI).bind fun x4 =>
if x4 = (5 : Int32) then
(gk_cv h3 v1 4 (f_Ar_blameCells v1 v4 h3) fun _ h4 =>
gk_ca (f_Ch_truthCells x3 (0 : Int32) h4) fun x5 h5 =>
gk_let (v2 + x5) fun x6 =>
gk_ca (f_Ch_truthCells x3 (1 : Int32) h5) fun x7 h6 =>
gk_let (v3 + x7) fun x8 =>
f_Ch_ofTruths_b80 (f_Ch_ofTruths_b7 fu) v0 v1 x6 x8 v4 h6)
else
(gk_let (v2 + (1 : Int32)) fun x9 =>
gk_cv h3 v1 4 (f_Ar_truth v1 v4 h3) fun x10 h7 =>
if x10 = 0 then
(f_Ch_ofTruths_b78 (f_Ch_ofTruths_b7 fu) v0 v1 x9 v4 v3 (0 : Int32) h7)
else
(f_Ch_ofTruths_b78 (f_Ch_ofTruths_b7 fu) v0 v1 x9 v4 v3 (1 : Int32) h7)))
def f_Ch_ofTruths (a0 : Int32) (a1 : Option Nat) (h : gk_H) : Option ((Option Nat) × gk_H) :=
f_Ch_ofTruths_b7 gk_F a0 a1 (0 : Int32) (0 : Int32) (0 : Int32) h
def f_Ch_chosenByPlace_b22   (h : gk_H) : Option ((Option Nat) × gk_H) :=
gk_ca (f_Va_ofError (3 : Int32) h) fun x1 h1 =>
some (x1, h1)
def f_Ch_chosenByPlace (a0 : Option Nat) (h : gk_H) : Option ((Option Nat) × gk_H) :=
gk_cv h a0 4 (f_Ar_whole a0 (0 : Int32) h) fun x1 h1 =>
if (lg_cmp x1 (1 : Int64)) < 0 then
(f_Ch_chosenByPlace_b22 h1)
else
(gk_cv h1 a0 4 (f_Ar_howMany a0 h1) fun x2 h2 =>
if (lg_cmp x1 (Int32.toInt64 x2)) < 0 then
(gk_cv h2 a0 4 (f_Ar_raw a0 (Int64.toInt32 x1) h2) fun x3 h3 =>
some (x3, h3))
else
(f_Ch_chosenByPlace_b22 h2))
def f_Ch_isMended_b28  (s0 : Int32) (h : gk_H) : Option (Int32 × gk_H) :=
if narrow .boolean (.int s0) = .int s0 then some (s0, h) else none
def f_Ch_isMended_b27   (h : gk_H) : Option (Int32 × gk_H) :=
f_Ch_isMended_b28 (0 : Int32) h
def f_Ch_isMended_b23   (h : gk_H) : Option (Int32 × gk_H) :=
f_Ch_isMended_b28 (1 : Int32) h
def f_Ch_isMended (a0 : Int32) (a1 : Option Nat) (h : gk_H) : Option (Int32 × gk_H) :=
((gk_get h a1 2 0).bind gk_asI).bind fun x1 =>
if x1 = (4 : Int32) then
(if a0 = (36 : Int32) then
(f_Ch_isMended_b23 h)
else
(((gk_get h a1 2 1).bind gk_asI).bind fun x2 =>
if x2 = (7 : Int32) then
(f_Ch_isMended_b23 h)
else
(f_Ch_isMended_b27 h)))
else
(f_Ch_isMended_b27 h)
def f_Ch_chosenByTruth_b34  (s0 : Option Nat) (h : gk_H) : Option ((Option Nat) × gk_H) :=
some (s0, h)
def f_Ch_chosenByTruth (a0 : Option Nat) (h : gk_H) : Option ((Option Nat) × gk_H) :=
gk_cv h a0 4 (f_Ar_truth a0 (0 : Int32) h) fun x1 h1 =>
if x1 = 0 then
(gk_cv h1 a0 4 (f_Ar_howMany a0 h1) fun x2 h2 =>
if x2 ≤ (2 : Int32) then
(gk_ca (f_Va_ofTruth (0 : Int32) h2) fun x3 h3 =>
f_Ch_chosenByTruth_b34 x3 h3)
else
(gk_cv h2 a0 4 (f_Ar_raw a0 (2 : Int32) h2) fun x4 h4 =>
f_Ch_chosenByTruth_b34 x4 h4))
else
(gk_cv h1 a0 4 (f_Ar_raw a0 (1 : Int32) h1) fun x5 h5 =>
some (x5, h5))
def f_Ch_isSo_b52  (s0 : Int32) (h : gk_H) : Option (Int32 × gk_H) :=
if narrow .boolean (.int s0) = .int s0 then some (s0, h) else none
def f_Ch_isSo_b66  (s0 : Int32) (h : gk_H) : Option (Int32 × gk_H) :=
if narrow .boolean (.int s0) = .int s0 then some (s0, h) else none
def f_Ch_isSo_b80  (s0 : Int32) (h : gk_H) : Option (Int32 × gk_H) :=
if narrow .boolean (.int s0) = .int s0 then some (s0, h) else none
def f_Ch_isSo_b94  (s0 : Int32) (h : gk_H) : Option (Int32 × gk_H) :=
if narrow .boolean (.int s0) = .int s0 then some (s0, h) else none
def f_Ch_isSo_b108  (s0 : Int32) (h : gk_H) : Option (Int32 × gk_H) :=
if narrow .boolean (.int s0) = .int s0 then some (s0, h) else none
def f_Ch_isSo_b131  (s0 : Int32) (h : gk_H) : Option (Int32 × gk_H) :=
if narrow .boolean (.int s0) = .int s0 then some (s0, h) else none
def f_Ch_isSo_b130   (h : gk_H) : Option (Int32 × gk_H) :=
f_Ch_isSo_b131 (0 : Int32) h
def f_Ch_isSo (a0 : Int32) (a1 : Option Nat) (h : gk_H) : Option (Int32 × gk_H) :=
if a0 = (46 : Int32) then
(((gk_get h a1 2 0).bind gk_asI).bind fun x1 =>
if x1 = 0 then
(f_Ch_isSo_b52 (1 : Int32) h)
else
(f_Ch_isSo_b52 (0 : Int32) h))
else if a0 = (47 : Int32) then
(((gk_get h a1 2 0).bind gk_asI).bind fun x2 =>
if x2 = (1 : Int32) then
(f_Ch_isSo_b66 (1 : Int32) h)
else
(f_Ch_isSo_b66 (0 : Int32) h))
else if a0 = (48 : Int32) then
(((gk_get h a1 2 0).bind gk_asI).bind fun x3 =>
if x3 = (2 : Int32) then
(f_Ch_isSo_b80 (1 : Int32) h)
else
(f_Ch_isSo_b80 (0 : Int32) h))
else if a0 = (49 : Int32) then
(((gk_get h a1 2 0).bind gk_asI).bind fun x4 =>
if x4 = (3 : Int32) then
(f_Ch_isSo_b94 (1 : Int32) h)
else
(f_Ch_isSo_b94 (0 : Int32) h))
else if a0 = (50 : Int32) then
(((gk_get h a1 2 0).bind gk_asI).bind fun x5 =>
if x5 = (4 : Int32) then
(f_Ch_isSo_b108 (1 : Int32) h)
else
(f_Ch_isSo_b108 (0 : Int32) h))
else if a0 = (51 : Int32) then
(((gk_get h a1 2 0).bind gk_asI).bind fun x6 =>
if x6 = (4 : Int32) then
(((gk_get h a1 2 1).bind gk_asI).bind fun x7 =>
if x7 = (7 : Int32) then
(f_Ch_isSo_b131 (1 : Int32) h)
else
(f_Ch_isSo_b130 h))
else
(f_Ch_isSo_b130 h))
else 
(if narrow .boolean (.int (0 : Int32)) = .int (0 : Int32) then some ((0 : Int32), h) else none)
def f_Ch_answer_b219  (v0 : Int32) (v1 : Option Nat) (h : gk_H) : Option ((Option Nat) × gk_H) :=
gk_cv h v1 4 (f_Ar_single v1 (0 : Int32) h) fun x1 h1 =>
gk_ca (f_Ch_isSo v0 x1 h1) fun x2 h2 =>
gk_ca (f_Va_ofTruth x2 h2) fun x3 h3 =>
some (x3, h3)
def f_Ch_answer_b123  (s0 : Option Nat) (s1 : Int32) (h : gk_H) : Option ((Option Nat) × gk_H) :=
gk_cv h s0 4 (f_Ar_raw s0 s1 h) fun x1 h1 =>
some (x1, h1)
def f_Ch_answer_b105  (v0 : Int32) (v1 : Option Nat) (h : gk_H) : Option ((Option Nat) × gk_H) :=
gk_cv h v1 4 (f_Ar_raw v1 (0 : Int32) h) fun x1 h1 =>
gk_ca (f_Ch_isMended v0 x1 h1) fun x2 h2 =>
if x2 = 0 then
(f_Ch_answer_b123 v1 (0 : Int32) h2)
else
(f_Ch_answer_b123 v1 (1 : Int32) h2)
def f_Ch_answer_b132  (v0 : Int32) (v1 : Option Nat) (h : gk_H) : Option ((Option Nat) × gk_H) :=
gk_ca (f_Ch_ofTruths v0 v1 h) fun x1 h1 =>
some (x1, h1)
def f_Ch_answer_b151  (s0 : Int32) (h : gk_H) : Option ((Option Nat) × gk_H) :=
gk_ca (f_Va_ofTruth s0 h) fun x1 h1 =>
some (x1, h1)
def f_Ch_answer_b172  (s0 : Int32) (h : gk_H) : Option ((Option Nat) × gk_H) :=
gk_ca (f_Va_ofTruth s0 h) fun x1 h1 =>
some (x1, h1)
def f_Ch_answer_b161  (v0 : Int32) (h : gk_H) : Option ((Option Nat) × gk_H) :=
if v0 = (44 : Int32) then
(f_Ch_answer_b172 (1 : Int32) h)
else
(f_Ch_answer_b172 (0 : Int32) h)
def f_Ch_answer (a0 : Int32) (a1 : Option Nat) (h : gk_H) : Option ((Option Nat) × gk_H) :=
if a0 = (35 : Int32) then
(gk_ca (f_Ch_chosenByTruth a1 h) fun x1 h1 =>
some (x1, h1))
else if a0 = (36 : Int32) then
(f_Ch_answer_b105 a0 a1 h)
else if a0 = (37 : Int32) then
(f_Ch_answer_b105 a0 a1 h)
else if a0 = (38 : Int32) then
(gk_ca (f_Ch_chosenByPlace a1 h) fun x2 h2 =>
some (x2, h2))
else if a0 = (39 : Int32) then
(f_Ch_answer_b132 a0 a1 h)
else if a0 = (40 : Int32) then
(f_Ch_answer_b132 a0 a1 h)
else if a0 = (41 : Int32) then
(f_Ch_answer_b132 a0 a1 h)
else if a0 = (42 : Int32) then
(gk_cv h a1 4 (f_Ar_truth a1 (0 : Int32) h) fun x3 h3 =>
if x3 = 0 then
(f_Ch_answer_b151 (1 : Int32) h3)
else
(f_Ch_answer_b151 (0 : Int32) h3))
else if a0 = (43 : Int32) then
(gk_ca (f_Va_ofError (7 : Int32) h) fun x4 h4 =>
some (x4, h4))
else if a0 = (44 : Int32) then
(f_Ch_answer_b161 a0 h)
else if a0 = (45 : Int32) then
(f_Ch_answer_b161 a0 h)
else if a0 = (46 : Int32) then
(f_Ch_answer_b219 a0 a1 h)
else if a0 = (47 : Int32) then
(f_Ch_answer_b219 a0 a1 h)
else if a0 = (48 : Int32) then
(f_Ch_answer_b219 a0 a1 h)
else if a0 = (49 : Int32) then
(f_Ch_answer_b219 a0 a1 h)
else if a0 = (50 : Int32) then
(f_Ch_answer_b219 a0 a1 h)
else if a0 = (51 : Int32) then
(f_Ch_answer_b219 a0 a1 h)
else if a0 = (52 : Int32) then
(gk_cv h a1 4 (f_Ar_sound a1 (0 : Int32) h) fun x5 h5 =>
gk_ca (f_Ch_asNumber x5 h5) fun x6 h6 =>
some (x6, h6))
else if a0 = (53 : Int32) then
(gk_cv h a1 4 (f_Ar_sound a1 (0 : Int32) h) fun x7 h7 =>
((gk_get h7 x7 2 3).bind gk_asR).bind fun x8 =>
gk_ca (f_Va_ofText x8 h7) fun x9 h8 =>
some (x9, h8))
else if a0 = (54 : Int32) then
(gk_cv h a1 4 (f_Ar_raw a1 (0 : Int32) h) fun x10 h9 =>
gk_ca (f_Ch_typeOf x10 h9) fun x11 h10 =>
gk_ca (f_Va_ofNumber (FP.i2d x11) h10) fun x12 h11 =>
some (x12, h11))
else if a0 = (55 : Int32) then
(gk_cv h a1 4 (f_Ar_single a1 (0 : Int32) h) fun x13 h12 =>
gk_ca (f_Ch_errorNumber x13 h12) fun x14 h13 =>
some (x14, h13))
else 
(f_Ch_answer_b219 a0 a1 h)
def f_Wo_numeralOf_b21  (s0 : Option Nat) (h : gk_H) : Option ((Option Nat) × gk_H) :=
some (s0, h)
def f_Wo_numeralOf (a0 : Option Nat) (h : gk_H) : Option ((Option Nat) × gk_H) :=
gk_ca (f_Le_isNumeral a0 h) fun x1 h1 =>
if x1 = 0 then
(gk_ca (f_Va_ofError (3 : Int32) h1) fun x2 h2 =>
f_Wo_numeralOf_b21 x2 h2)
else
(gk_ca (f_Le_numeral a0 h1) fun x3 h3 =>
gk_ca (f_Va_ofNumber x3 h3) fun x4 h4 =>
f_Wo_numeralOf_b21 x4 h4)
def f_Wo_codeOf_b23  (s0 : Option Nat) (h : gk_H) : Option ((Option Nat) × gk_H) :=
some (s0, h)
def f_Wo_codeOf (a0 : Option Nat) (h : gk_H) : Option ((Option Nat) × gk_H) :=
gk_cv h a0 0 (f_St_isEmpty a0 h) fun x1 h1 =>
if x1 = 0 then
(gk_cv h1 a0 0 (f_St_charAt a0 (0 : Int32) h1) fun x2 h2 =>
gk_ca (f_Va_ofNumber (FP.i2d x2) h2) fun x3 h3 =>
f_Wo_codeOf_b23 x3 h3)
else
(gk_ca (f_Va_ofError (3 : Int32) h1) fun x4 h4 =>
f_Wo_codeOf_b23 x4 h4)
def f_Wo_character_b16   (h : gk_H) : Option ((Option Nat) × gk_H) :=
gk_ca (f_Va_ofError (3 : Int32) h) fun x1 h1 =>
some (x1, h1)
def f_Wo_character (a0 : Int64) (h : gk_H) : Option ((Option Nat) × gk_H) :=
if (lg_cmp a0 (32 : Int64)) < 0 then
(f_Wo_character_b16 h)
else
(if (lg_cmp a0 (126 : Int64)) ≤ 0 then
(gk_nw h 1 4 fun x1 h1 =>
gk_cv h1 x1 1 (f_SB_init x1 h1) fun _ h2 =>
gk_cv h2 x1 1 (f_SB_append_C x1 (UInt32.toInt32 (Int32.toUInt32 (Int64.toInt32 a0) % 65536)) h2) fun x2 h3 =>
gk_cv h3 x1 1 (f_SB_toString x1 h3) fun x3 h4 =>
gk_ca (f_Va_ofText x3 h4) fun x4 h5 =>
some (x4, h5))
else
(f_Wo_character_b16 h))
def f_Li_firstPlace_b46   (h : gk_H) : Option (Int32 × gk_H) :=
some ((-1 : Int32), h)
def f_Li_firstPlace_b12  : Nat → Option Nat → Option Nat → Int32 → gk_H → Option (Int32 × gk_H)
  | 0 => fun _ _ _ _ => none
  | fu + 1 => fun v0 v1 v3 h =>
gk_cv h v1 0 (f_St_length v1 h) fun x1 h1 =>
if x1 < v3 then
(f_Li_firstPlace_b46 h1)
else
(((gk_get h1 v0 3 3).bind gk_asR).bind fun x2 =>
(gk_len h1 x2).bind fun x3 =>
if x3 ≤ v3 then
(f_Li_firstPlace_b46 h1)
else
(((gk_get h1 v0 3 3).bind gk_asR).bind fun x4 =>
((gk_ald h1 x4 4 v3).bind gk_asI).bind fun x5 =>
if x5 = 0 then
(gk_let (v3 + (1 : Int32)) fun x6 =>
(f_Li_firstPlace_b12 fu) v0 v1 x6 h1)
else
(some (v3, h1))))
def f_Li_firstPlace (a0 : Option Nat) (a1 : Option Nat) (a2 : Int32) (h : gk_H) : Option (Int32 × gk_H) :=
gk_cv h a0 3 (f_Li_look a0 a1 (1 : Int32) h) fun _ h1 =>
gk_ca (f_Ma_max_II a2 (0 : Int32) h1) fun x1 h2 =>
f_Li_firstPlace_b12 gk_F a0 a1 x1 h2
def f_Le_standsAt_b17   (h : gk_H) : Option (Int32 × gk_H) :=
if narrow .boolean (.int (0 : Int32)) = .int (0 : Int32) then some ((0 : Int32), h) else none
def f_Le_standsAt_b21  : Nat → Option Nat → Option Nat → Int32 → Int32 → gk_H → Option (Int32 × gk_H)
  | 0 => fun _ _ _ _ _ => none
  | fu + 1 => fun v0 v1 v2 v3 h =>
gk_cv h v0 0 (f_St_length v0 h) fun x1 h1 =>
if x1 ≤ v3 then
(if narrow .boolean (.int (1 : Int32)) = .int (1 : Int32) then some ((1 : Int32), h1) else none)
else
(gk_cv h1 v0 0 (f_St_charAt v0 v3 h1) fun x2 h2 =>
gk_cv h2 v1 0 (f_St_charAt v1 (v2 + v3) h2) fun x3 h3 =>
if x2 = x3 then
(gk_let (v3 + (1 : Int32)) fun x4 =>
(f_Le_standsAt_b21 fu) v0 v1 v2 x4 h3)
else
(if narrow .boolean (.int (0 : Int32)) = .int (0 : Int32) then some ((0 : Int32), h3) else none))
def f_Le_standsAt (a0 : Option Nat) (a1 : Option Nat) (a2 : Int32) (h : gk_H) : Option (Int32 × gk_H) :=
if a2 < 0 then
(f_Le_standsAt_b17 h)
else
(gk_cv h a0 0 (f_St_length a0 h) fun x1 h1 =>
gk_cv h1 a1 0 (f_St_length a1 h1) fun x2 h2 =>
if (a2 + x1) ≤ x2 then
(f_Le_standsAt_b21 gk_F a0 a1 a2 (0 : Int32) h2)
else
(f_Le_standsAt_b17 h2))
def f_Wo_firstPlace_b2  : Nat → Option Nat → Option Nat → Int32 → gk_H → Option (Int32 × gk_H)
  | 0 => fun _ _ _ _ => none
  | fu + 1 => fun v0 v1 v3 h =>
gk_cv h v1 0 (f_St_length v1 h) fun x1 h1 =>
if x1 < v3 then
(some ((-1 : Int32), h1))
else
(gk_ca (f_Le_standsAt v0 v1 v3 h1) fun x2 h2 =>
if x2 = 0 then
(gk_let (v3 + (1 : Int32)) fun x3 =>
(f_Wo_firstPlace_b2 fu) v0 v1 x3 h2)
else
(some (v3, h2)))
def f_Wo_firstPlace (a0 : Option Nat) (a1 : Option Nat) (a2 : Int32) (h : gk_H) : Option (Int32 × gk_H) :=
f_Wo_firstPlace_b2 gk_F a0 a1 a2 h
def f_Wo_found_b40   (h : gk_H) : Option ((Option Nat) × gk_H) :=
gk_ca (f_Va_ofError (3 : Int32) h) fun x1 h1 =>
some (x1, h1)
def f_Wo_found_b110  (s0 : Option Nat) (h : gk_H) : Option ((Option Nat) × gk_H) :=
some (s0, h)
def f_Wo_found_b89  (v6 : Int32) (h : gk_H) : Option ((Option Nat) × gk_H) :=
if v6 = (-1 : Int32) then
(gk_ca (f_Va_ofError (3 : Int32) h) fun x1 h1 =>
f_Wo_found_b110 x1 h1)
else
(gk_ca (f_Va_ofNumber (FP.i2d (v6 + (1 : Int32))) h) fun x2 h2 =>
f_Wo_found_b110 x2 h2)
def f_Wo_found (a0 : Int32) (a1 : Option Nat) (h : gk_H) : Option ((Option Nat) × gk_H) :=
gk_cv h a1 4 (f_Ar_lettersOf a1 (0 : Int32) h) fun x1 h1 =>
gk_cv h1 a1 4 (f_Ar_lettersOf a1 (1 : Int32) h1) fun x2 h2 =>
gk_cv h2 a1 4 (f_Ar_wholeOr a1 (2 : Int32) (1 : Int64) h2) fun x3 h3 =>
if (lg_cmp x3 (1 : Int64)) < 0 then
(f_Wo_found_b40 h3)
else
(gk_cv h3 x2 0 (f_St_length x2 h3) fun x4 h4 =>
if (lg_cmp x3 (Int32.toInt64 (x4 + (1 : Int32)))) ≤ 0 then
(if a0 = (69 : Int32) then
(((gk_get h4 a1 4 8).bind gk_asR).bind fun x5 =>
gk_cv h4 x5 3 (f_Li_prepare x5 x1 h4) fun _ h5 =>
((gk_get h5 a1 4 8).bind gk_asR).bind fun x6 =>
gk_cv h5 x6 3 (f_Li_firstPlace x6 x2 ((Int64.toInt32 x3) - (1 : Int32)) h5) fun x7 h6 =>
f_Wo_found_b89 x7 h6)
else
(gk_ca (f_Wo_firstPlace x1 x2 ((Int64.toInt32 x3) - (1 : Int32)) h4) fun x8 h7 =>
f_Wo_found_b89 x8 h7))
else
(f_Wo_found_b40 h4))
def f_Wo_part (a0 : Option Nat) (a1 : Int64) (a2 : Int64) (h : gk_H) : Option ((Option Nat) × gk_H) :=
gk_cv h a0 0 (f_St_length a0 h) fun x1 h1 =>
gk_ca (f_Ma_min_JJ a1 (Int32.toInt64 x1) h1) fun x2 h2 =>
gk_ca (f_Ma_max_JJ (0 : Int64) x2 h2) fun x3 h3 =>
gk_let (Int64.toInt32 x3) fun x4 =>
gk_ca (f_Ma_min_JJ (a1 + a2) (Int32.toInt64 x1) h3) fun x5 h4 =>
gk_ca (f_Ma_max_JJ (Int32.toInt64 x4) x5 h4) fun x6 h5 =>
gk_let (Int64.toInt32 x6) fun x7 =>
gk_cv h5 a0 0 (f_St_substring_II a0 x4 x7 h5) fun x8 h6 =>
some (x8, h6)
def f_Wo_replaced_b39   (h : gk_H) : Option ((Option Nat) × gk_H) :=
gk_ca (f_Va_ofError (3 : Int32) h) fun x1 h1 =>
some (x1, h1)
def f_Wo_replaced (a0 : Option Nat) (h : gk_H) : Option ((Option Nat) × gk_H) :=
gk_cv h a0 4 (f_Ar_lettersOf a0 (0 : Int32) h) fun x1 h1 =>
gk_cv h1 a0 4 (f_Ar_whole a0 (1 : Int32) h1) fun x2 h2 =>
gk_cv h2 a0 4 (f_Ar_whole a0 (2 : Int32) h2) fun x3 h3 =>
gk_cv h3 a0 4 (f_Ar_lettersOf a0 (3 : Int32) h3) fun x4 h4 =>
if (lg_cmp x2 (1 : Int64)) < 0 then
(f_Wo_replaced_b39 h4)
else
(if 0 ≤ (lg_cmp x3 (0 : Int64)) then
(gk_nw h4 1 4 fun x5 h5 =>
gk_cv h5 x5 1 (f_SB_init x5 h5) fun _ h6 =>
gk_ca (f_Wo_part x1 (0 : Int64) (x2 - (1 : Int64)) h6) fun x6 h7 =>
gk_cv h7 x5 1 (f_SB_append_String x5 x6 h7) fun x7 h8 =>
gk_cv h8 x5 1 (f_SB_append_String x5 x4 h8) fun x8 h9 =>
gk_cv h9 x1 0 (f_St_length x1 h9) fun x9 h10 =>
gk_ca (f_Wo_part x1 ((x2 - (1 : Int64)) + x3) (Int32.toInt64 x9) h10) fun x10 h11 =>
gk_cv h11 x5 1 (f_SB_append_String x5 x10 h11) fun x11 h12 =>
gk_cv h12 x5 1 (f_SB_toString x5 h12) fun x12 h13 =>
gk_ca (f_Va_ofText x12 h13) fun x13 h14 =>
some (x13, h14))
else
(f_Wo_replaced_b39 h4))
def f_Wo_substituted_b165  (v7 : Option Nat) (h : gk_H) : Option ((Option Nat) × gk_H) :=
gk_cv h v7 1 (f_SB_toString v7 h) fun x1 h1 =>
gk_ca (f_Va_ofText x1 h1) fun x2 h2 =>
some (x2, h2)
def f_Wo_substituted_b147 (b68 : Option Nat → Option Nat → Option Nat → Int32 → Int64 → Option Nat → Int32 → Int64 → gk_H → Option ((Option Nat) × gk_H)) (v1 : Option Nat) (v2 : Option Nat) (v3 : Option Nat) (v4 : Int32) (v5 : Int64) (v7 : Option Nat) (v8 : Int32) (v9 : Int64) (h : gk_H) : Option ((Option Nat) × gk_H) :=
gk_cv h v1 0 (f_St_charAt v1 v8 h) fun x1 h1 =>
gk_cv h1 v7 1 (f_SB_append_C v7 x1 h1) fun x2 h2 =>
gk_let (v8 + (1 : Int32)) fun x3 =>
b68 v1 v2 v3 v4 v5 v7 x3 v9 h2
def f_Wo_substituted_b131 (b68 : Option Nat → Option Nat → Option Nat → Int32 → Int64 → Option Nat → Int32 → Int64 → gk_H → Option ((Option Nat) × gk_H)) (v1 : Option Nat) (v2 : Option Nat) (v3 : Option Nat) (v4 : Int32) (v5 : Int64) (v7 : Option Nat) (v8 : Int32) (v9 : Int64) (s0 : Option Nat) (s1 : Option Nat) (h : gk_H) : Option ((Option Nat) × gk_H) :=
gk_cv h s0 1 (f_SB_append_String s0 s1 h) fun x1 h1 =>
gk_cv h1 v2 0 (f_St_length v2 h1) fun x2 h2 =>
gk_let (v8 + x2) fun x3 =>
b68 v1 v2 v3 v4 v5 v7 x3 v9 h2
def f_Wo_substituted_b126 (b68 : Option Nat → Option Nat → Option Nat → Int32 → Int64 → Option Nat → Int32 → Int64 → gk_H → Option ((Option Nat) × gk_H)) (v1 : Option Nat) (v2 : Option Nat) (v3 : Option Nat) (v4 : Int32) (v5 : Int64) (v7 : Option Nat) (v8 : Int32) (v9 : Int64) (s0 : Option Nat) (h : gk_H) : Option ((Option Nat) × gk_H) :=
f_Wo_substituted_b131 b68 v1 v2 v3 v4 v5 v7 v8 v9 s0 v3 h
def f_Wo_substituted_b68  : Nat → Option Nat → Option Nat → Option Nat → Int32 → Int64 → Option Nat → Int32 → Int64 → gk_H → Option ((Option Nat) × gk_H)
  | 0 => fun _ _ _ _ _ _ _ _ _ => none
  | fu + 1 => fun v1 v2 v3 v4 v5 v7 v8 v9 h =>
gk_cv h v1 0 (f_St_length v1 h) fun x1 h1 =>
if x1 ≤ v8 then
(f_Wo_substituted_b165 v7 h1)
else
(gk_cv h1 v7 1 (f_SB_length v7 h1) fun x2 h2 =>
if (255 : Int32) < x2 then
(f_Wo_substituted_b165 v7 h2)
else
(gk_cv h2 v2 0 (f_St_isEmpty v2 h2) fun x3 h3 =>
if x3 = 0 then
(gk_ca (f_Le_standsAt v2 v1 v8 h3) fun x4 h4 =>
if x4 = 0 then
(f_Wo_substituted_b147 (f_Wo_substituted_b68 fu) v1 v2 v3 v4 v5 v7 v8 v9 h4)
else
(gk_let (v9 + (1 : Int64)) fun x5 =>
if v4 = 0 then
(if (lg_cmp x5 v5) = 0 then
(f_Wo_substituted_b126 (f_Wo_substituted_b68 fu) v1 v2 v3 v4 v5 v7 v8 x5 v7 h4)
else
(f_Wo_substituted_b131 (f_Wo_substituted_b68 fu) v1 v2 v3 v4 v5 v7 v8 x5 v7 v2 h4))
else
(f_Wo_substituted_b126 (f_Wo_substituted_b68 fu) v1 v2 v3 v4 v5 v7 v8 x5 v7 h4)))
else
(f_Wo_substituted_b147 (f_Wo_substituted_b68 fu) v1 v2 v3 v4 v5 v7 v8 v9 h3)))
def f_Wo_substituted_b31  (v0 : Option Nat) (v1 : Option Nat) (v2 : Option Nat) (v3 : Option Nat) (s0 : Int32) (h : gk_H) : Option ((Option Nat) × gk_H) :=
gk_cv h v0 4 (f_Ar_wholeOr v0 (3 : Int32) (1 : Int64) h) fun x1 h1 =>
if 0 ≤ (lg_cmp x1 (1 : Int64)) then
(gk_nw h1 1 4 fun x2 h2 =>
gk_cv h2 x2 1 (f_SB_init x2 h2) fun _ h3 =>
f_Wo_substituted_b68 gk_F v1 v2 v3 s0 x1 x2 (0 : Int32) (0 : Int64) h3)
else
(gk_ca (f_Va_ofError (3 : Int32) h1) fun x3 h4 =>
some (x3, h4))
def f_Wo_substituted (a0 : Option Nat) (h : gk_H) : Option ((Option Nat) × gk_H) :=
gk_cv h a0 4 (f_Ar_lettersOf a0 (0 : Int32) h) fun x1 h1 =>
gk_cv h1 a0 4 (f_Ar_lettersOf a0 (1 : Int32) h1) fun x2 h2 =>
gk_cv h2 a0 4 (f_Ar_lettersOf a0 (2 : Int32) h2) fun x3 h3 =>
gk_cv h3 a0 4 (f_Ar_howMany a0 h3) fun x4 h4 =>
if (4 : Int32) ≤ x4 then
(f_Wo_substituted_b31 a0 x1 x2 x3 (0 : Int32) h4)
else
(f_Wo_substituted_b31 a0 x1 x2 x3 (1 : Int32) h4)
def f_Wo_repeated_b20   (h : gk_H) : Option ((Option Nat) × gk_H) :=
gk_ca (f_Va_ofError (3 : Int32) h) fun x1 h1 =>
some (x1, h1)
def f_Wo_repeated_b64  (v3 : Option Nat) (h : gk_H) : Option ((Option Nat) × gk_H) :=
gk_cv h v3 1 (f_SB_toString v3 h) fun x1 h1 =>
gk_ca (f_Va_ofText x1 h1) fun x2 h2 =>
some (x2, h2)
def f_Wo_repeated_b36  : Nat → Option Nat → Int64 → Option Nat → Int32 → gk_H → Option ((Option Nat) × gk_H)
  | 0 => fun _ _ _ _ _ => none
  | fu + 1 => fun v0 v1 v3 v4 h =>
if 0 ≤ (lg_cmp (Int32.toInt64 v4) v1) then
(f_Wo_repeated_b64 v3 h)
else
(if (255 : Int32) ≤ v4 then
(f_Wo_repeated_b64 v3 h)
else
(gk_cv h v3 1 (f_SB_append_String v3 v0 h) fun x1 h1 =>
gk_let (v4 + (1 : Int32)) fun x2 =>
(f_Wo_repeated_b36 fu) v0 v1 v3 x2 h1))
def f_Wo_repeated (a0 : Option Nat) (a1 : Int64) (h : gk_H) : Option ((Option Nat) × gk_H) :=
if (lg_cmp a1 (0 : Int64)) < 0 then
(f_Wo_repeated_b20 h)
else
(gk_cv h a0 0 (f_St_length a0 h) fun x1 h1 =>
if (lg_cmp ((Int32.toInt64 x1) * a1) (255 : Int64)) ≤ 0 then
(gk_nw h1 1 4 fun x2 h2 =>
gk_cv h2 x2 1 (f_SB_init x2 h2) fun _ h3 =>
f_Wo_repeated_b36 gk_F a0 a1 x2 (0 : Int32) h3)
else
(f_Wo_repeated_b20 h1))
def f_Wo_joined_b40 (b10 : Option Nat → Option Nat → Int32 → gk_H → Option ((Option Nat) × gk_H)) (v0 : Option Nat) (v1 : Option Nat) (v2 : Int32) (h : gk_H) : Option ((Option Nat) × gk_H) :=
gk_let (v2 + (1 : Int32)) fun x1 =>
b10 v0 v1 x1 h
def f_Wo_joined_b10  : Nat → Option Nat → Option Nat → Int32 → gk_H → Option ((Option Nat) × gk_H)
  | 0 => fun _ _ _ _ => none
  | fu + 1 => fun v0 v1 v2 h =>
gk_cv h v0 4 (f_Ar_howMany v0 h) fun x1 h1 =>
if x1 ≤ v2 then
(gk_cv h1 v1 1 (f_SB_toString v1 h1) fun x2 h2 =>
gk_ca (f_Va_ofText x2 h2) fun x3 h3 =>
some (x3, h3))
else
(gk_cv h1 v0 4 (f_Ar_lettersOf v0 v2 h1) fun x4 h4 =>
gk_cv h4 v1 1 (f_SB_length v1 h4) fun x5 h5 =>
if (255 : Int32) < x5 then
(f_Wo_joined_b40 (f_Wo_joined_b10 fu) v0 v1 v2 h5)
else
(gk_cv h5 v1 1 (f_SB_append_String v1 x4 h5) fun x6 h6 =>
f_Wo_joined_b40 (f_Wo_joined_b10 fu) v0 v1 v2 h6))
def f_Wo_joined (a0 : Option Nat) (h : gk_H) : Option ((Option Nat) × gk_H) :=
gk_nw h 1 4 fun x1 h1 =>
gk_cv h1 x1 1 (f_SB_init x1 h1) fun _ h2 =>
f_Wo_joined_b10 gk_F a0 x1 (0 : Int32) h2
def f_Wo_trimmed_b70 (b12 : Option Nat → Option Nat → Int32 → Int32 → gk_H → Option ((Option Nat) × gk_H)) (v0 : Option Nat) (v1 : Option Nat) (v2 : Int32) (v3 : Int32) (h : gk_H) : Option ((Option Nat) × gk_H) :=
gk_let (v3 + (1 : Int32)) fun x1 =>
b12 v0 v1 v2 x1 h
def f_Wo_trimmed_b61 (b12 : Option Nat → Option Nat → Int32 → Int32 → gk_H → Option ((Option Nat) × gk_H)) (v0 : Option Nat) (v1 : Option Nat) (v3 : Int32) (v4 : Int32) (h : gk_H) : Option ((Option Nat) × gk_H) :=
gk_cv h v1 1 (f_SB_append_C v1 v4 h) fun x1 h1 =>
f_Wo_trimmed_b70 b12 v0 v1 (0 : Int32) v3 h1
def f_Wo_trimmed_b46 (b12 : Option Nat → Option Nat → Int32 → Int32 → gk_H → Option ((Option Nat) × gk_H)) (v0 : Option Nat) (v1 : Option Nat) (v3 : Int32) (s0 : Int32) (h : gk_H) : Option ((Option Nat) × gk_H) :=
f_Wo_trimmed_b70 b12 v0 v1 s0 v3 h
def f_Wo_trimmed_b12  : Nat → Option Nat → Option Nat → Int32 → Int32 → gk_H → Option ((Option Nat) × gk_H)
  | 0 => fun _ _ _ _ _ => none
  | fu + 1 => fun v0 v1 v2 v3 h =>
gk_cv h v0 0 (f_St_length v0 h) fun x1 h1 =>
if x1 ≤ v3 then
(gk_cv h1 v1 1 (f_SB_toString v1 h1) fun x2 h2 =>
gk_ca (f_Va_ofText x2 h2) fun x3 h3 =>
some (x3, h3))
else
(gk_cv h1 v0 0 (f_St_charAt v0 v3 h1) fun x4 h4 =>
if x4 = (32 : Int32) then
(gk_cv h4 v1 1 (f_SB_length v1 h4) fun x5 h5 =>
if x5 ≤ 0 then
(f_Wo_trimmed_b46 (f_Wo_trimmed_b12 fu) v0 v1 v3 (0 : Int32) h5)
else
(f_Wo_trimmed_b46 (f_Wo_trimmed_b12 fu) v0 v1 v3 (1 : Int32) h5))
else
(if v2 = 0 then
(f_Wo_trimmed_b61 (f_Wo_trimmed_b12 fu) v0 v1 v3 x4 h4)
else
(gk_cv h4 v1 1 (f_SB_append_C v1 (32 : Int32) h4) fun x6 h6 =>
f_Wo_trimmed_b61 (f_Wo_trimmed_b12 fu) v0 v1 v3 x4 h6)))
def f_Wo_trimmed (a0 : Option Nat) (h : gk_H) : Option ((Option Nat) × gk_H) :=
gk_nw h 1 4 fun x1 h1 =>
gk_cv h1 x1 1 (f_SB_init x1 h1) fun _ h2 =>
f_Wo_trimmed_b12 gk_F a0 x1 (0 : Int32) (0 : Int32) h2
def f_Le_small_b24  (s0 : Int32) (h : gk_H) : Option (Int32 × gk_H) :=
if narrow .char (.int s0) = .int s0 then some (s0, h) else none
def f_Le_small_b23  (v0 : Int32) (h : gk_H) : Option (Int32 × gk_H) :=
f_Le_small_b24 v0 h
def f_Le_small (a0 : Int32) (h : gk_H) : Option (Int32 × gk_H) :=
if a0 < (65 : Int32) then
(f_Le_small_b23 a0 h)
else
(if (90 : Int32) < a0 then
(f_Le_small_b23 a0 h)
else
(f_Le_small_b24 (UInt32.toInt32 (Int32.toUInt32 ((a0 - (65 : Int32)) + (97 : Int32)) % 65536)) h))
def f_Le_isLetter_b23  (s0 : Int32) (h : gk_H) : Option (Int32 × gk_H) :=
if narrow .boolean (.int s0) = .int s0 then some (s0, h) else none
def f_Le_isLetter_b22   (h : gk_H) : Option (Int32 × gk_H) :=
f_Le_isLetter_b23 (0 : Int32) h
def f_Le_isLetter (a0 : Int32) (h : gk_H) : Option (Int32 × gk_H) :=
gk_ca (f_Le_great a0 h) fun x1 h1 =>
if x1 < (65 : Int32) then
(f_Le_isLetter_b22 h1)
else
(gk_ca (f_Le_great a0 h1) fun x2 h2 =>
if (90 : Int32) < x2 then
(f_Le_isLetter_b22 h2)
else
(f_Le_isLetter_b23 (1 : Int32) h2))
def f_Wo_recast_b82 (b23 : Int32 → Option Nat → Option Nat → Int32 → Int32 → gk_H → Option ((Option Nat) × gk_H)) (v0 : Int32) (v1 : Option Nat) (v2 : Option Nat) (v3 : Int32) (v4 : Int32) (h : gk_H) : Option ((Option Nat) × gk_H) :=
gk_let (v4 + (1 : Int32)) fun x1 =>
b23 v0 v1 v2 v3 x1 h
def f_Wo_recast_b81 (b23 : Int32 → Option Nat → Option Nat → Int32 → Int32 → gk_H → Option ((Option Nat) × gk_H)) (v0 : Int32) (v1 : Option Nat) (v2 : Option Nat) (v4 : Int32) (s0 : Int32) (h : gk_H) : Option ((Option Nat) × gk_H) :=
f_Wo_recast_b82 b23 v0 v1 v2 s0 v4 h
def f_Wo_recast_b58 (b23 : Int32 → Option Nat → Option Nat → Int32 → Int32 → gk_H → Option ((Option Nat) × gk_H)) (v0 : Int32) (v1 : Option Nat) (v2 : Option Nat) (v3 : Int32) (v4 : Int32) (v5 : Int32) (s0 : Option Nat) (s1 : Int32) (h : gk_H) : Option ((Option Nat) × gk_H) :=
gk_cv h s0 1 (f_SB_append_C s0 s1 h) fun x1 h1 =>
if v0 = (62 : Int32) then
(gk_ca (f_Le_isLetter v5 h1) fun x2 h2 =>
if x2 = 0 then
(f_Wo_recast_b81 b23 v0 v1 v2 v4 (1 : Int32) h2)
else
(f_Wo_recast_b81 b23 v0 v1 v2 v4 (0 : Int32) h2))
else
(f_Wo_recast_b82 b23 v0 v1 v2 v3 v4 h1)
def f_Wo_recast_b23  : Nat → Int32 → Option Nat → Option Nat → Int32 → Int32 → gk_H → Option ((Option Nat) × gk_H)
  | 0 => fun _ _ _ _ _ _ => none
  | fu + 1 => fun v0 v1 v2 v3 v4 h =>
gk_cv h v1 0 (f_St_length v1 h) fun x1 h1 =>
if x1 ≤ v4 then
(gk_cv h1 v2 1 (f_SB_toString v2 h1) fun x2 h2 =>
gk_ca (f_Va_ofText x2 h2) fun x3 h3 =>
some (x3, h3))
else
(gk_cv h1 v1 0 (f_St_charAt v1 v4 h1) fun x4 h4 =>
if v3 = 0 then
(gk_ca (f_Le_small x4 h4) fun x5 h5 =>
f_Wo_recast_b58 (f_Wo_recast_b23 fu) v0 v1 v2 v3 v4 x4 v2 x5 h5)
else
(gk_ca (f_Le_great x4 h4) fun x6 h6 =>
f_Wo_recast_b58 (f_Wo_recast_b23 fu) v0 v1 v2 v3 v4 x4 v2 x6 h6))
def f_Wo_recast_b19  (v0 : Int32) (v1 : Option Nat) (v2 : Option Nat) (s0 : Int32) (h : gk_H) : Option ((Option Nat) × gk_H) :=
f_Wo_recast_b23 gk_F v0 v1 v2 s0 (0 : Int32) h
def f_Wo_recast (a0 : Int32) (a1 : Option Nat) (h : gk_H) : Option ((Option Nat) × gk_H) :=
gk_nw h 1 4 fun x1 h1 =>
gk_cv h1 x1 1 (f_SB_init x1 h1) fun _ h2 =>
if a0 = (61 : Int32) then
(f_Wo_recast_b19 a0 a1 x1 (0 : Int32) h2)
else
(f_Wo_recast_b19 a0 a1 x1 (1 : Int32) h2)
def f_Wo_middle_b12   (h : gk_H) : Option ((Option Nat) × gk_H) :=
gk_ca (f_Va_ofError (3 : Int32) h) fun x1 h1 =>
some (x1, h1)
def f_Wo_middle (a0 : Option Nat) (a1 : Int64) (a2 : Int64) (h : gk_H) : Option ((Option Nat) × gk_H) :=
if (lg_cmp a1 (1 : Int64)) < 0 then
(f_Wo_middle_b12 h)
else
(if 0 ≤ (lg_cmp a2 (0 : Int64)) then
(gk_ca (f_Wo_part a0 (a1 - (1 : Int64)) a2 h) fun x1 h1 =>
gk_ca (f_Va_ofText x1 h1) fun x2 h2 =>
some (x2, h2))
else
(f_Wo_middle_b12 h))
def f_Wo_side_b32  (v1 : Option Nat) (v2 : Int64) (s0 : Int64) (h : gk_H) : Option ((Option Nat) × gk_H) :=
gk_ca (f_Wo_part v1 s0 v2 h) fun x1 h1 =>
gk_ca (f_Va_ofText x1 h1) fun x2 h2 =>
some (x2, h2)
def f_Wo_side (a0 : Int32) (a1 : Option Nat) (a2 : Int64) (h : gk_H) : Option ((Option Nat) × gk_H) :=
if 0 ≤ (lg_cmp a2 (0 : Int64)) then
(if a0 = (57 : Int32) then
(f_Wo_side_b32 a1 a2 (0 : Int64) h)
else
(gk_cv h a1 0 (f_St_length a1 h) fun x1 h1 =>
gk_ca (f_Ma_max_JJ (0 : Int64) ((Int32.toInt64 x1) - a2) h1) fun x2 h2 =>
f_Wo_side_b32 a1 a2 x2 h2))
else
(gk_ca (f_Va_ofError (3 : Int32) h) fun x3 h3 =>
some (x3, h3))
def f_Wo_answer_b101  (v0 : Int32) (v1 : Option Nat) (h : gk_H) : Option ((Option Nat) × gk_H) :=
gk_cv h v1 4 (f_Ar_lettersOf v1 (0 : Int32) h) fun x1 h1 =>
gk_cv h1 v1 4 (f_Ar_wholeOr v1 (1 : Int32) (1 : Int64) h1) fun x2 h2 =>
gk_ca (f_Wo_side v0 x1 x2 h2) fun x3 h3 =>
some (x3, h3)
def f_Wo_answer_b136  (v0 : Int32) (v1 : Option Nat) (h : gk_H) : Option ((Option Nat) × gk_H) :=
gk_cv h v1 4 (f_Ar_lettersOf v1 (0 : Int32) h) fun x1 h1 =>
gk_ca (f_Wo_recast v0 x1 h1) fun x2 h2 =>
some (x2, h2)
def f_Wo_answer_b184  (v0 : Int32) (v1 : Option Nat) (h : gk_H) : Option ((Option Nat) × gk_H) :=
gk_ca (f_Wo_found v0 v1 h) fun x1 h1 =>
some (x1, h1)
def f_Wo_answer (a0 : Int32) (a1 : Option Nat) (h : gk_H) : Option ((Option Nat) × gk_H) :=
if a0 = (56 : Int32) then
(gk_cv h a1 4 (f_Ar_lettersOf a1 (0 : Int32) h) fun x1 h1 =>
gk_cv h1 x1 0 (f_St_length x1 h1) fun x2 h2 =>
gk_ca (f_Va_ofNumber (FP.i2d x2) h2) fun x3 h3 =>
some (x3, h3))
else if a0 = (57 : Int32) then
(f_Wo_answer_b101 a0 a1 h)
else if a0 = (58 : Int32) then
(f_Wo_answer_b101 a0 a1 h)
else if a0 = (59 : Int32) then
(gk_cv h a1 4 (f_Ar_lettersOf a1 (0 : Int32) h) fun x4 h4 =>
gk_cv h4 a1 4 (f_Ar_whole a1 (1 : Int32) h4) fun x5 h5 =>
gk_cv h5 a1 4 (f_Ar_whole a1 (2 : Int32) h5) fun x6 h6 =>
gk_ca (f_Wo_middle x4 x5 x6 h6) fun x7 h7 =>
some (x7, h7))
else if a0 = (60 : Int32) then
(f_Wo_answer_b136 a0 a1 h)
else if a0 = (61 : Int32) then
(f_Wo_answer_b136 a0 a1 h)
else if a0 = (62 : Int32) then
(f_Wo_answer_b136 a0 a1 h)
else if a0 = (63 : Int32) then
(gk_cv h a1 4 (f_Ar_lettersOf a1 (0 : Int32) h) fun x8 h8 =>
gk_ca (f_Wo_trimmed x8 h8) fun x9 h9 =>
some (x9, h9))
else if a0 = (64 : Int32) then
(gk_ca (f_Wo_joined a1 h) fun x10 h10 =>
some (x10, h10))
else if a0 = (65 : Int32) then
(gk_cv h a1 4 (f_Ar_lettersOf a1 (0 : Int32) h) fun x11 h11 =>
gk_cv h11 a1 4 (f_Ar_whole a1 (1 : Int32) h11) fun x12 h12 =>
gk_ca (f_Wo_repeated x11 x12 h12) fun x13 h13 =>
some (x13, h13))
else if a0 = (66 : Int32) then
(gk_ca (f_Wo_substituted a1 h) fun x14 h14 =>
some (x14, h14))
else if a0 = (67 : Int32) then
(gk_ca (f_Wo_replaced a1 h) fun x15 h15 =>
some (x15, h15))
else if a0 = (68 : Int32) then
(f_Wo_answer_b184 a0 a1 h)
else if a0 = (69 : Int32) then
(f_Wo_answer_b184 a0 a1 h)
else if a0 = (70 : Int32) then
(gk_cv h a1 4 (f_Ar_lettersOf a1 (0 : Int32) h) fun x16 h16 =>
gk_cv h16 a1 4 (f_Ar_lettersOf a1 (1 : Int32) h16) fun x17 h17 =>
gk_cv h17 x16 0 (f_St_equals x16 x17 h17) fun x18 h18 =>
gk_ca (f_Va_ofTruth x18 h18) fun x19 h19 =>
some (x19, h19))
else if a0 = (71 : Int32) then
(gk_cv h a1 4 (f_Ar_whole a1 (0 : Int32) h) fun x20 h20 =>
gk_ca (f_Wo_character x20 h20) fun x21 h21 =>
some (x21, h21))
else if a0 = (72 : Int32) then
(gk_cv h a1 4 (f_Ar_lettersOf a1 (0 : Int32) h) fun x22 h22 =>
gk_ca (f_Wo_codeOf x22 h22) fun x23 h23 =>
some (x23, h23))
else if a0 = (73 : Int32) then
(gk_cv h a1 4 (f_Ar_lettersOf a1 (0 : Int32) h) fun x24 h24 =>
gk_ca (f_Wo_numeralOf x24 h24) fun x25 h25 =>
some (x25, h25))
else 
(gk_ca (f_Va_ofError (3 : Int32) h) fun x26 h26 =>
some (x26, h26))
def f_Va_cellIn (a0 : Option Nat) (a1 : Int32) (a2 : Int32) (h : gk_H) : Option ((Option Nat) × gk_H) :=
((gk_get h a0 2 5).bind gk_asI).bind fun x1 =>
gk_cv h a0 2 (f_Va_cellAt a0 ((a1 * x1) + a2) h) fun x2 h1 =>
some (x2, h1)
def f_Lo_section_b123  (v8 : Option Nat) (s0 : Int32) (s1 : Int32) (h : gk_H) : Option ((Option Nat) × gk_H) :=
gk_ca (f_Va_ofCells s0 s1 v8 h) fun x1 h1 =>
some (x1, h1)
def f_Lo_section_b111  (v5 : Int32) (v6 : Int32) (v7 : Int32) (v8 : Option Nat) (s0 : Int32) (h : gk_H) : Option ((Option Nat) × gk_H) :=
if v5 = 0 then
(f_Lo_section_b123 v8 s0 v7 h)
else
(f_Lo_section_b123 v8 s0 v6 h)
def f_Lo_section_b74 (b28 : Option Nat → Int32 → Int32 → Int32 → Int32 → Int32 → Option Nat → Int32 → gk_H → Option ((Option Nat) × gk_H)) (v0 : Option Nat) (v1 : Int32) (v2 : Int32) (v5 : Int32) (v6 : Int32) (v7 : Int32) (v8 : Option Nat) (v9 : Int32) (v10 : Int32) (s0 : Int32) (h : gk_H) : Option ((Option Nat) × gk_H) :=
gk_cv h v0 2 (f_Va_cellIn v0 (v1 + v10) (v2 + s0) h) fun x1 h1 =>
(gk_ast h1 v8 7 v9 (va_rf x1)).bind fun h2 =>
gk_let (v9 + (1 : Int32)) fun x2 =>
b28 v0 v1 v2 v5 v6 v7 v8 x2 h2
def f_Lo_section_b54 (b28 : Option Nat → Int32 → Int32 → Int32 → Int32 → Int32 → Option Nat → Int32 → gk_H → Option ((Option Nat) × gk_H)) (v0 : Option Nat) (v1 : Int32) (v2 : Int32) (v5 : Int32) (v6 : Int32) (v7 : Int32) (v8 : Option Nat) (v9 : Int32) (s0 : Int32) (h : gk_H) : Option ((Option Nat) × gk_H) :=
if v5 = 0 then
(if v7 = 0 then none else
f_Lo_section_b74 b28 v0 v1 v2 v5 v6 v7 v8 v9 s0 (v9 - v9 / v7 * v7) h)
else
(if v6 = 0 then none else
f_Lo_section_b74 b28 v0 v1 v2 v5 v6 v7 v8 v9 s0 (v9 / v6) h)
def f_Lo_section_b28  : Nat → Option Nat → Int32 → Int32 → Int32 → Int32 → Int32 → Option Nat → Int32 → gk_H → Option ((Option Nat) × gk_H)
  | 0 => fun _ _ _ _ _ _ _ _ _ => none
  | fu + 1 => fun v0 v1 v2 v5 v6 v7 v8 v9 h =>
(gk_len h v8).bind fun x1 =>
if x1 ≤ v9 then
(if v5 = 0 then
(f_Lo_section_b111 v5 v6 v7 v8 v6 h)
else
(f_Lo_section_b111 v5 v6 v7 v8 v7 h))
else
(if v5 = 0 then
(if v7 = 0 then none else
f_Lo_section_b54 (f_Lo_section_b28 fu) v0 v1 v2 v5 v6 v7 v8 v9 (v9 / v7) h)
else
(if v6 = 0 then none else
f_Lo_section_b54 (f_Lo_section_b28 fu) v0 v1 v2 v5 v6 v7 v8 v9 (v9 - v9 / v6 * v6) h))
def f_Lo_section (a0 : Option Nat) (a1 : Int32) (a2 : Int32) (a3 : Int32) (a4 : Int32) (a5 : Int32) (h : gk_H) : Option ((Option Nat) × gk_H) :=
gk_ca (f_Ma_max_II (1 : Int32) a3 h) fun x1 h1 =>
gk_ca (f_Ma_max_II (1 : Int32) a4 h1) fun x2 h2 =>
gk_na h2 7 (x1 * x2) fun x3 h3 =>
f_Lo_section_b28 gk_F a0 a1 a2 a5 x1 x2 x3 (0 : Int32) h3
def f_Lo_transposed (a0 : Option Nat) (h : gk_H) : Option ((Option Nat) × gk_H) :=
((gk_get h a0 2 4).bind gk_asI).bind fun x1 =>
((gk_get h a0 2 5).bind gk_asI).bind fun x2 =>
gk_ca (f_Lo_section a0 (0 : Int32) (0 : Int32) x1 x2 (1 : Int32) h) fun x3 h1 =>
some (x3, h1)
def f_Lo_wanted_b21  (s0 : Option Nat) (h : gk_H) : Option ((Option Nat) × gk_H) :=
some (s0, h)
def f_Lo_wanted (a0 : Option Nat) (h : gk_H) : Option ((Option Nat) × gk_H) :=
gk_cv h a0 4 (f_Ar_sound a0 (0 : Int32) h) fun x1 h1 =>
((gk_get h1 x1 2 0).bind gk_asI).bind fun x2 =>
if x2 = 0 then
(gk_ca (f_Va_ofNumber (0x0000000000000000) h1) fun x3 h2 =>
f_Lo_wanted_b21 x3 h2)
else
(f_Lo_wanted_b21 x1 h1)
def f_Ar_truthOr_b17  (s0 : Int32) (h : gk_H) : Option (Int32 × gk_H) :=
if narrow .boolean (.int s0) = .int s0 then some (s0, h) else none
def f_Ar_truthOr (a0 : Option Nat) (a1 : Int32) (a2 : Int32) (h : gk_H) : Option (Int32 × gk_H) :=
((gk_get h a0 4 2).bind gk_asI).bind fun x1 =>
if x1 ≤ a1 then
(f_Ar_truthOr_b17 a2 h)
else
(gk_cv h a0 4 (f_Ar_truth a0 a1 h) fun x2 h1 =>
f_Ar_truthOr_b17 x2 h1)
def f_Lo_firstSame_b81 (b10 : Option Nat → Option Nat → Option Nat → Int32 → gk_H → Option (Int32 × gk_H)) (v0 : Option Nat) (v1 : Option Nat) (v2 : Option Nat) (v3 : Int32) (h : gk_H) : Option (Int32 × gk_H) :=
gk_let (v3 + (1 : Int32)) fun x1 =>
b10 v0 v1 v2 x1 h
def f_Lo_firstSame_b72 (b10 : Option Nat → Option Nat → Option Nat → Int32 → gk_H → Option (Int32 × gk_H)) (v0 : Option Nat) (v1 : Option Nat) (v2 : Option Nat) (v3 : Int32) (s0 : Int32) (h : gk_H) : Option (Int32 × gk_H) :=
if s0 = 0 then
(f_Lo_firstSame_b81 b10 v0 v1 v2 v3 h)
else
(some (v3, h))
def f_Lo_firstSame_b10  : Nat → Option Nat → Option Nat → Option Nat → Int32 → gk_H → Option (Int32 × gk_H)
  | 0 => fun _ _ _ _ _ => none
  | fu + 1 => fun v0 v1 v2 v3 h =>
gk_cv h v1 2 (f_Va_howManyCells v1 h) fun x1 h1 =>
if x1 ≤ v3 then
(some ((-1 : Int32), h1))
else
(gk_cv h1 v1 2 (f_Va_cellAt v1 v3 h1) fun x2 h2 =>
((gk_get h2 x2 2 0).bind gk_asI).bind fun x3 =>
((gk_get h2 v0 2 0).bind gk_asI).bind fun x4 =>
if x3 = x4 then
(((gk_get h2 x2 2 0).bind gk_asI).bind fun x5 =>
if x5 = (2 : Int32) then
(((gk_get h2 x2 2 3).bind gk_asR).bind fun x6 =>
gk_cv h2 v2 3 (f_Li_isMetBy v2 x6 h2) fun x7 h3 =>
f_Lo_firstSame_b72 (f_Lo_firstSame_b10 fu) v0 v1 v2 v3 x7 h3)
else
(gk_ca (f_Op_order x2 v0 h2) fun x8 h4 =>
if x8 = 0 then
(f_Lo_firstSame_b72 (f_Lo_firstSame_b10 fu) v0 v1 v2 v3 (1 : Int32) h4)
else
(f_Lo_firstSame_b72 (f_Lo_firstSame_b10 fu) v0 v1 v2 v3 (0 : Int32) h4)))
else
(f_Lo_firstSame_b81 (f_Lo_firstSame_b10 fu) v0 v1 v2 v3 h2))
def f_Lo_firstSame (a0 : Option Nat) (a1 : Option Nat) (a2 : Option Nat) (h : gk_H) : Option (Int32 × gk_H) :=
((gk_get h a0 2 3).bind gk_asR).bind fun x1 =>
gk_cv h a2 3 (f_Li_prepare a2 x1 h) fun _ h1 =>
f_Lo_firstSame_b10 gk_F a0 a1 a2 (0 : Int32) h1
def f_Lo_lastBefore_b50 (b5 : Option Nat → Option Nat → Int32 → Int32 → Int32 → gk_H → Option (Int32 × gk_H)) (v0 : Option Nat) (v1 : Option Nat) (v2 : Int32) (v3 : Int32) (v4 : Int32) (h : gk_H) : Option (Int32 × gk_H) :=
gk_let (v4 + (1 : Int32)) fun x1 =>
b5 v0 v1 v2 v3 x1 h
def f_Lo_lastBefore_b5  : Nat → Option Nat → Option Nat → Int32 → Int32 → Int32 → gk_H → Option (Int32 × gk_H)
  | 0 => fun _ _ _ _ _ _ => none
  | fu + 1 => fun v0 v1 v2 v3 v4 h =>
gk_cv h v1 2 (f_Va_howManyCells v1 h) fun x1 h1 =>
if x1 ≤ v4 then
(some (v3, h1))
else
(gk_cv h1 v1 2 (f_Va_cellAt v1 v4 h1) fun x2 h2 =>
((gk_get h2 x2 2 0).bind gk_asI).bind fun x3 =>
((gk_get h2 v0 2 0).bind gk_asI).bind fun x4 =>
if x3 = x4 then
(gk_ca (f_Op_order x2 v0 h2) fun x5 h3 =>
if (x5 * v2) ≤ 0 then
(f_Lo_lastBefore_b50 (f_Lo_lastBefore_b5 fu) v0 v1 v2 v4 v4 h3)
else
(some (v3, h3)))
else
(f_Lo_lastBefore_b50 (f_Lo_lastBefore_b5 fu) v0 v1 v2 v3 v4 h2))
def f_Lo_lastBefore (a0 : Option Nat) (a1 : Option Nat) (a2 : Int32) (h : gk_H) : Option (Int32 × gk_H) :=
f_Lo_lastBefore_b5 gk_F a0 a1 a2 (-1 : Int32) (0 : Int32) h
def f_Lo_placeOf_b27  (s0 : Option Nat) (s1 : Option Nat) (s2 : Int32) (h : gk_H) : Option (Int32 × gk_H) :=
gk_ca (f_Lo_lastBefore s0 s1 s2 h) fun x1 h1 =>
some (x1, h1)
def f_Lo_placeOf (a0 : Option Nat) (a1 : Option Nat) (a2 : Int64) (a3 : Option Nat) (h : gk_H) : Option (Int32 × gk_H) :=
if (lg_cmp a2 (0 : Int64)) = 0 then
(gk_ca (f_Lo_firstSame a0 a1 a3 h) fun x1 h1 =>
some (x1, h1))
else
(if (lg_cmp a2 (0 : Int64)) ≤ 0 then
(f_Lo_placeOf_b27 a0 a1 (-1 : Int32) h)
else
(f_Lo_placeOf_b27 a0 a1 (1 : Int32) h))
def f_Lo_lookedUp_b105  (s0 : Option Nat) (h : gk_H) : Option ((Option Nat) × gk_H) :=
some (s0, h)
def f_Lo_lookedUp_b25  (v0 : Option Nat) (v1 : Option Nat) (v2 : Option Nat) (v3 : Int64) (s0 : Int64) (h : gk_H) : Option ((Option Nat) × gk_H) :=
if 0 ≤ (lg_cmp v3 (1 : Int64)) then
(((gk_get h v1 2 5).bind gk_asI).bind fun x1 =>
if (lg_cmp v3 (Int32.toInt64 x1)) ≤ 0 then
(((gk_get h v1 2 4).bind gk_asI).bind fun x2 =>
gk_ca (f_Lo_section v1 (0 : Int32) (0 : Int32) x2 (1 : Int32) (0 : Int32) h) fun x3 h1 =>
((gk_get h1 v0 4 8).bind gk_asR).bind fun x4 =>
gk_ca (f_Lo_placeOf v2 x3 s0 x4 h1) fun x5 h2 =>
if x5 = (-1 : Int32) then
(gk_ca (f_Va_ofError (7 : Int32) h2) fun x6 h3 =>
f_Lo_lookedUp_b105 x6 h3)
else
(gk_cv h2 v1 2 (f_Va_cellIn v1 x5 ((Int64.toInt32 v3) - (1 : Int32)) h2) fun x7 h4 =>
f_Lo_lookedUp_b105 x7 h4))
else
(gk_ca (f_Va_ofError (4 : Int32) h) fun x8 h5 =>
some (x8, h5)))
else
(gk_ca (f_Va_ofError (3 : Int32) h) fun x9 h6 =>
some (x9, h6))
def f_Lo_lookedUp (a0 : Option Nat) (a1 : Option Nat) (h : gk_H) : Option ((Option Nat) × gk_H) :=
gk_ca (f_Lo_wanted a0 h) fun x1 h1 =>
gk_cv h1 a0 4 (f_Ar_whole a0 (2 : Int32) h1) fun x2 h2 =>
gk_cv h2 a0 4 (f_Ar_truthOr a0 (3 : Int32) (1 : Int32) h2) fun x3 h3 =>
if x3 = 0 then
(f_Lo_lookedUp_b25 a0 a1 x1 x2 (0 : Int64) h3)
else
(f_Lo_lookedUp_b25 a0 a1 x1 x2 (1 : Int64) h3)
def f_Va_isLine_b21  (s0 : Int32) (h : gk_H) : Option (Int32 × gk_H) :=
if narrow .boolean (.int s0) = .int s0 then some (s0, h) else none
def f_Va_isLine_b16   (h : gk_H) : Option (Int32 × gk_H) :=
f_Va_isLine_b21 (1 : Int32) h
def f_Va_isLine (a0 : Option Nat) (h : gk_H) : Option (Int32 × gk_H) :=
((gk_get h a0 2 4).bind gk_asI).bind fun x1 =>
if x1 = (1 : Int32) then
(f_Va_isLine_b16 h)
else
(((gk_get h a0 2 5).bind gk_asI).bind fun x2 =>
if x2 = (1 : Int32) then
(f_Va_isLine_b16 h)
else
(f_Va_isLine_b21 (0 : Int32) h))
def f_Lo_match_b65  (s0 : Option Nat) (h : gk_H) : Option ((Option Nat) × gk_H) :=
some (s0, h)
def f_Lo_match (a0 : Option Nat) (h : gk_H) : Option ((Option Nat) × gk_H) :=
gk_ca (f_Lo_wanted a0 h) fun x1 h1 =>
gk_cv h1 a0 4 (f_Ar_raw a0 (1 : Int32) h1) fun x2 h2 =>
gk_cv h2 a0 4 (f_Ar_wholeOr a0 (2 : Int32) (1 : Int64) h2) fun x3 h3 =>
gk_cv h3 x2 2 (f_Va_isLine x2 h3) fun x4 h4 =>
if x4 = 0 then
(gk_ca (f_Va_ofError (7 : Int32) h4) fun x5 h5 =>
some (x5, h5))
else
(((gk_get h4 a0 4 8).bind gk_asR).bind fun x6 =>
gk_ca (f_Lo_placeOf x1 x2 x3 x6 h4) fun x7 h6 =>
if x7 = (-1 : Int32) then
(gk_ca (f_Va_ofError (7 : Int32) h6) fun x8 h7 =>
f_Lo_match_b65 x8 h7)
else
(gk_ca (f_Va_ofNumber (FP.i2d (x7 + (1 : Int32))) h6) fun x9 h8 =>
f_Lo_match_b65 x9 h8))
def f_Lo_index_b76   (h : gk_H) : Option ((Option Nat) × gk_H) :=
gk_ca (f_Va_ofError (3 : Int32) h) fun x1 h1 =>
some (x1, h1)
def f_Lo_index_b102   (h : gk_H) : Option ((Option Nat) × gk_H) :=
gk_ca (f_Va_ofError (4 : Int32) h) fun x1 h1 =>
some (x1, h1)
def f_Lo_index_b194  (s0 : Option Nat) (s1 : Int32) (s2 : Int32) (s3 : Int32) (s4 : Int32) (h : gk_H) : Option ((Option Nat) × gk_H) :=
gk_ca (f_Lo_section s0 s1 s2 s3 s4 (0 : Int32) h) fun x1 h1 =>
some (x1, h1)
def f_Lo_index_b179  (v1 : Option Nat) (v4 : Int64) (s0 : Option Nat) (s1 : Int32) (s2 : Int32) (s3 : Int32) (h : gk_H) : Option ((Option Nat) × gk_H) :=
if (lg_cmp v4 (0 : Int64)) ≤ 0 then
(((gk_get h v1 2 5).bind gk_asI).bind fun x1 =>
f_Lo_index_b194 s0 s1 s2 s3 x1 h)
else
(f_Lo_index_b194 s0 s1 s2 s3 (1 : Int32) h)
def f_Lo_index_b165  (v1 : Option Nat) (v2 : Int64) (v4 : Int64) (s0 : Option Nat) (s1 : Int32) (s2 : Int32) (h : gk_H) : Option ((Option Nat) × gk_H) :=
if (lg_cmp v2 (0 : Int64)) ≤ 0 then
(((gk_get h v1 2 4).bind gk_asI).bind fun x1 =>
f_Lo_index_b179 v1 v4 s0 s1 s2 x1 h)
else
(f_Lo_index_b179 v1 v4 s0 s1 s2 (1 : Int32) h)
def f_Lo_index_b149  (v1 : Option Nat) (v2 : Int64) (v4 : Int64) (s0 : Option Nat) (s1 : Int32) (h : gk_H) : Option ((Option Nat) × gk_H) :=
if (lg_cmp v4 (0 : Int64)) ≤ 0 then
(f_Lo_index_b165 v1 v2 v4 s0 s1 (0 : Int32) h)
else
(f_Lo_index_b165 v1 v2 v4 s0 s1 ((Int64.toInt32 v4) - (1 : Int32)) h)
def f_Lo_index_b134  (v1 : Option Nat) (v2 : Int64) (v4 : Int64) (h : gk_H) : Option ((Option Nat) × gk_H) :=
if (lg_cmp v2 (0 : Int64)) ≤ 0 then
(f_Lo_index_b149 v1 v2 v4 v1 (0 : Int32) h)
else
(f_Lo_index_b149 v1 v2 v4 v1 ((Int64.toInt32 v2) - (1 : Int32)) h)
def f_Lo_index_b63  (v1 : Option Nat) (v2 : Int64) (v4 : Int64) (h : gk_H) : Option ((Option Nat) × gk_H) :=
if (lg_cmp v2 (0 : Int64)) < 0 then
(f_Lo_index_b76 h)
else
(if 0 ≤ (lg_cmp v4 (0 : Int64)) then
(((gk_get h v1 2 4).bind gk_asI).bind fun x1 =>
if 0 < (lg_cmp v2 (Int32.toInt64 x1)) then
(f_Lo_index_b102 h)
else
(((gk_get h v1 2 5).bind gk_asI).bind fun x2 =>
if (lg_cmp v4 (Int32.toInt64 x2)) ≤ 0 then
(if (lg_cmp v2 (0 : Int64)) ≤ 0 then
(f_Lo_index_b134 v1 v2 v4 h)
else
(if (lg_cmp v4 (0 : Int64)) ≤ 0 then
(f_Lo_index_b134 v1 v2 v4 h)
else
(gk_cv h v1 2 (f_Va_cellIn v1 ((Int64.toInt32 v2) - (1 : Int32)) ((Int64.toInt32 v4) - (1 : Int32)) h) fun x3 h1 =>
some (x3, h1))))
else
(f_Lo_index_b102 h)))
else
(f_Lo_index_b76 h))
def f_Lo_index_b44  (v0 : Option Nat) (v1 : Option Nat) (v2 : Int64) (v4 : Int64) (h : gk_H) : Option ((Option Nat) × gk_H) :=
gk_cv h v0 4 (f_Ar_howMany v0 h) fun x1 h1 =>
if x1 = (2 : Int32) then
(((gk_get h1 v1 2 5).bind gk_asI).bind fun x2 =>
if x2 = (1 : Int32) then
(f_Lo_index_b63 v1 v2 (1 : Int64) h1)
else
(f_Lo_index_b63 v1 v2 v4 h1))
else
(f_Lo_index_b63 v1 v2 v4 h1)
def f_Lo_index (a0 : Option Nat) (h : gk_H) : Option ((Option Nat) × gk_H) :=
gk_cv h a0 4 (f_Ar_raw a0 (0 : Int32) h) fun x1 h1 =>
gk_cv h1 a0 4 (f_Ar_whole a0 (1 : Int32) h1) fun x2 h2 =>
gk_cv h2 a0 4 (f_Ar_wholeOr a0 (2 : Int32) (0 : Int64) h2) fun x3 h3 =>
gk_cv h3 a0 4 (f_Ar_howMany a0 h3) fun x4 h4 =>
if x4 = (2 : Int32) then
(((gk_get h4 x1 2 4).bind gk_asI).bind fun x5 =>
if x5 = (1 : Int32) then
(f_Lo_index_b63 x1 (1 : Int64) x2 h4)
else
(f_Lo_index_b44 a0 x1 x2 x3 h4))
else
(f_Lo_index_b44 a0 x1 x2 x3 h4)
def f_Lo_answer (a0 : Int32) (a1 : Option Nat) (h : gk_H) : Option ((Option Nat) × gk_H) :=
if a0 = (74 : Int32) then
(gk_cv h a1 4 (f_Ar_raw a1 (0 : Int32) h) fun x1 h1 =>
((gk_get h1 x1 2 4).bind gk_asI).bind fun x2 =>
gk_ca (f_Va_ofNumber (FP.i2d x2) h1) fun x3 h2 =>
some (x3, h2))
else if a0 = (75 : Int32) then
(gk_cv h a1 4 (f_Ar_raw a1 (0 : Int32) h) fun x4 h3 =>
((gk_get h3 x4 2 5).bind gk_asI).bind fun x5 =>
gk_ca (f_Va_ofNumber (FP.i2d x5) h3) fun x6 h4 =>
some (x6, h4))
else if a0 = (76 : Int32) then
(gk_ca (f_Lo_index a1 h) fun x7 h5 =>
some (x7, h5))
else if a0 = (77 : Int32) then
(gk_ca (f_Lo_match a1 h) fun x8 h6 =>
some (x8, h6))
else if a0 = (78 : Int32) then
(gk_cv h a1 4 (f_Ar_raw a1 (1 : Int32) h) fun x9 h7 =>
gk_ca (f_Lo_lookedUp a1 x9 h7) fun x10 h8 =>
some (x10, h8))
else if a0 = (79 : Int32) then
(gk_cv h a1 4 (f_Ar_raw a1 (1 : Int32) h) fun x11 h9 =>
gk_ca (f_Lo_transposed x11 h9) fun x12 h10 =>
gk_ca (f_Lo_lookedUp a1 x12 h10) fun x13 h11 =>
some (x13, h11))
else if a0 = (80 : Int32) then
(gk_cv h a1 4 (f_Ar_raw a1 (0 : Int32) h) fun x14 h12 =>
gk_ca (f_Lo_transposed x14 h12) fun x15 h13 =>
some (x15, h13))
else 
(gk_ca (f_Va_ofError (3 : Int32) h) fun x16 h14 =>
some (x16, h14))
def f_Da_partOfDay_b39  (v0 : Int32) (s0 : Int32) (h : gk_H) : Option ((Option Nat) × gk_H) :=
if v0 = (89 : Int32) then
(gk_ca (f_Va_ofNumber (FP.i2d (s0 / (3600 : Int32))) h) fun x1 h1 =>
some (x1, h1))
else if v0 = (90 : Int32) then
(gk_ca (f_Va_ofNumber (FP.i2d ((s0 / (60 : Int32)) - (s0 / (60 : Int32)) / (60 : Int32) * (60 : Int32))) h) fun x2 h2 =>
some (x2, h2))
else 
(gk_ca (f_Va_ofNumber (FP.i2d (s0 - s0 / (60 : Int32) * (60 : Int32))) h) fun x3 h3 =>
some (x3, h3))
def f_Da_partOfDay (a0 : Int32) (a1 : UInt64) (h : gk_H) : Option ((Option Nat) × gk_H) :=
if 0 ≤ (Op.cmpValue (FP.dcmp a1 (0x0000000000000000)) .g) then
(gk_ca (f_Am_floor a1 h) fun x1 h1 =>
gk_dop (FP.dsub a1 x1) fun x2 =>
gk_dop (FP.dmul x2 (0x40f5180000000000)) fun x3 =>
gk_dop (FP.dadd x3 (0x3fe0000000000000)) fun x4 =>
gk_let (FP.d2i x4) fun x5 =>
if x5 = (86400 : Int32) then
(f_Da_partOfDay_b39 a0 (0 : Int32) h1)
else
(f_Da_partOfDay_b39 a0 x5 h1))
else
(gk_ca (f_Va_ofError (6 : Int32) h) fun x6 h2 =>
some (x6, h2))
def f_Da_time_b44   (h : gk_H) : Option ((Option Nat) × gk_H) :=
gk_ca (f_Va_ofError (6 : Int32) h) fun x1 h1 =>
some (x1, h1)
def f_Da_time (a0 : Int64) (a1 : Int64) (a2 : Int64) (h : gk_H) : Option ((Option Nat) × gk_H) :=
if (lg_cmp a0 (0 : Int64)) < 0 then
(f_Da_time_b44 h)
else
(if 0 < (lg_cmp a0 (32767 : Int64)) then
(f_Da_time_b44 h)
else
(if (lg_cmp a1 (0 : Int64)) < 0 then
(f_Da_time_b44 h)
else
(if 0 < (lg_cmp a1 (32767 : Int64)) then
(f_Da_time_b44 h)
else
(if (lg_cmp a2 (0 : Int64)) < 0 then
(f_Da_time_b44 h)
else
(if (lg_cmp a2 (32767 : Int64)) ≤ 0 then
(gk_let ((((3600 : Int64) * a0) + ((60 : Int64) * a1)) + a2) fun x1 =>
gk_dop (FP.ddiv (FP.l2d (x1 - x1 / (86400 : Int64) * (86400 : Int64))) (0x40f5180000000000)) fun x2 =>
gk_ca (f_Va_ofNumber x2 h) fun x3 h1 =>
some (x3, h1))
else
(f_Da_time_b44 h))))))
def f_Da_dayOf_b20  (s0 : Int32) (h : gk_H) : Option (Int32 × gk_H) :=
some (s0, h)
def f_Da_dayOf_b19   (h : gk_H) : Option (Int32 × gk_H) :=
f_Da_dayOf_b20 (-1 : Int32) h
def f_Da_dayOf (a0 : UInt64) (h : gk_H) : Option (Int32 × gk_H) :=
if (Op.cmpValue (FP.dcmp a0 (0x0000000000000000)) .l) < 0 then
(f_Da_dayOf_b19 h)
else
(if 0 ≤ (Op.cmpValue (FP.dcmp a0 (0x4146924100000000)) .g) then
(f_Da_dayOf_b19 h)
else
(f_Da_dayOf_b20 (FP.d2i a0) h))
def f_Da_isShort_b21  (s0 : Int32) (h : gk_H) : Option (Int32 × gk_H) :=
if narrow .boolean (.int s0) = .int s0 then some (s0, h) else none
def f_Da_isShort_b20   (h : gk_H) : Option (Int32 × gk_H) :=
f_Da_isShort_b21 (0 : Int32) h
def f_Da_isShort (a0 : Int64) (h : gk_H) : Option (Int32 × gk_H) :=
if (lg_cmp a0 (-32768 : Int64)) < 0 then
(f_Da_isShort_b20 h)
else
(if 0 < (lg_cmp a0 (32767 : Int64)) then
(f_Da_isShort_b20 h)
else
(f_Da_isShort_b21 (1 : Int32) h))
def f_Da_isLeap_b26  (s0 : Int32) (h : gk_H) : Option (Int32 × gk_H) :=
if narrow .boolean (.int s0) = .int s0 then some (s0, h) else none
def f_Da_isLeap_b25   (h : gk_H) : Option (Int32 × gk_H) :=
f_Da_isLeap_b26 (0 : Int32) h
def f_Da_isLeap_b21   (h : gk_H) : Option (Int32 × gk_H) :=
f_Da_isLeap_b26 (1 : Int32) h
def f_Da_isLeap (a0 : Int32) (h : gk_H) : Option (Int32 × gk_H) :=
if (a0 - a0 / (4 : Int32) * (4 : Int32)) = 0 then
(if (a0 - a0 / (100 : Int32) * (100 : Int32)) = 0 then
(if (a0 - a0 / (400 : Int32) * (400 : Int32)) = 0 then
(f_Da_isLeap_b21 h)
else
(f_Da_isLeap_b25 h))
else
(f_Da_isLeap_b21 h))
else
(f_Da_isLeap_b25 h)
def f_Da_firstOf_b91  (s0 : Int32) (h : gk_H) : Option (Int32 × gk_H) :=
some (s0, h)
def f_Da_firstOf_b77  (v0 : Int32) (v5 : Int32) (h : gk_H) : Option (Int32 × gk_H) :=
if v0 ≤ (1 : Int32) then
(f_Da_firstOf_b91 v5 h)
else
(f_Da_firstOf_b91 (v5 + (1 : Int32)) h)
def f_Da_firstOf (a0 : Int32) (h : gk_H) : Option (Int32 × gk_H) :=
gk_let ((1900 : Int32) + (a0 / (12 : Int32))) fun x1 =>
gk_ca (f_Ma_floorMod a0 (12 : Int32) h) fun x2 h1 =>
gk_let (x1 - (1 : Int32)) fun x3 =>
gk_let ((((x3 / (4 : Int32)) - (x3 / (100 : Int32))) + (x3 / (400 : Int32))) - (460 : Int32)) fun x4 =>
(gk_asR (gk_gs h1 4)).bind fun x5 =>
((gk_ald h1 x5 1 x2).bind gk_asI).bind fun x6 =>
gk_let ((((1 : Int32) + ((365 : Int32) * (x1 - (1900 : Int32)))) + x4) + x6) fun x7 =>
if x2 ≤ (1 : Int32) then
(f_Da_firstOf_b77 a0 x7 h1)
else
(gk_ca (f_Da_isLeap x1 h1) fun x8 h2 =>
if x8 = 0 then
(f_Da_firstOf_b77 a0 x7 h2)
else
(gk_let (x7 + (1 : Int32)) fun x9 =>
f_Da_firstOf_b77 a0 x9 h2))
def f_Da_monthOf_b23 (b5 : Int32 → Int32 → Int32 → gk_H → Option (Int32 × gk_H)) (v0 : Int32) (v1 : Int32) (v2 : Int32) (h : gk_H) : Option (Int32 × gk_H) :=
gk_let (v2 / (2 : Int32)) fun x1 =>
b5 v0 v1 x1 h
def f_Da_monthOf_b5  : Nat → Int32 → Int32 → Int32 → gk_H → Option (Int32 × gk_H)
  | 0 => fun _ _ _ _ => none
  | fu + 1 => fun v0 v1 v2 h =>
if v2 ≤ 0 then
(some (v1, h))
else
(gk_ca (f_Da_firstOf (v1 + v2) h) fun x1 h1 =>
if v0 < x1 then
(f_Da_monthOf_b23 (f_Da_monthOf_b5 fu) v0 v1 v2 h1)
else
(gk_let (v1 + v2) fun x2 =>
f_Da_monthOf_b23 (f_Da_monthOf_b5 fu) v0 x2 v2 h1))
def f_Da_monthOf (a0 : Int32) (h : gk_H) : Option (Int32 × gk_H) :=
f_Da_monthOf_b5 gk_F a0 (0 : Int32) (65536 : Int32) h
def f_Da_ofDay_b27  (s0 : Option Nat) (h : gk_H) : Option ((Option Nat) × gk_H) :=
some (s0, h)
def f_Da_ofDay_b22   (h : gk_H) : Option ((Option Nat) × gk_H) :=
gk_ca (f_Va_ofError (6 : Int32) h) fun x1 h1 =>
f_Da_ofDay_b27 x1 h1
def f_Da_ofDay (a0 : Int64) (h : gk_H) : Option ((Option Nat) × gk_H) :=
if (lg_cmp a0 (0 : Int64)) < 0 then
(f_Da_ofDay_b22 h)
else
(if 0 < (lg_cmp a0 (2958465 : Int64)) then
(f_Da_ofDay_b22 h)
else
(gk_ca (f_Va_ofNumber (FP.l2d a0) h) fun x1 h1 =>
f_Da_ofDay_b27 x1 h1))
def f_Da_monthsOn_b19   (h : gk_H) : Option ((Option Nat) × gk_H) :=
gk_ca (f_Va_ofError (6 : Int32) h) fun x1 h1 =>
some (x1, h1)
def f_Da_monthsOn_b97  (s0 : Int64) (h : gk_H) : Option ((Option Nat) × gk_H) :=
gk_ca (f_Da_ofDay s0 h) fun x1 h1 =>
some (x1, h1)
def f_Da_monthsOn (a0 : Int32) (a1 : UInt64) (a2 : Int64) (h : gk_H) : Option ((Option Nat) × gk_H) :=
gk_ca (f_Da_dayOf a1 h) fun x1 h1 =>
if x1 = (-1 : Int32) then
(f_Da_monthsOn_b19 h1)
else
(gk_ca (f_Da_isShort a2 h1) fun x2 h2 =>
if x2 = 0 then
(f_Da_monthsOn_b19 h2)
else
(gk_ca (f_Da_monthOf x1 h2) fun x3 h3 =>
gk_let (x3 + (Int64.toInt32 a2)) fun x4 =>
if 0 ≤ x4 then
(gk_ca (f_Da_firstOf x4 h3) fun x5 h4 =>
gk_ca (f_Da_firstOf (x4 + (1 : Int32)) h4) fun x6 h5 =>
gk_let (x6 - (1 : Int32)) fun x7 =>
if a0 = (87 : Int32) then
(f_Da_monthsOn_b97 (Int32.toInt64 x7) h5)
else
(gk_ca (f_Da_firstOf x3 h5) fun x8 h6 =>
gk_ca (f_Ma_min_II ((x5 + x1) - x8) x7 h6) fun x9 h7 =>
f_Da_monthsOn_b97 (Int32.toInt64 x9) h7))
else
(gk_ca (f_Va_ofError (6 : Int32) h3) fun x10 h8 =>
some (x10, h8))))
def f_Da_weekday_b26   (h : gk_H) : Option ((Option Nat) × gk_H) :=
gk_ca (f_Va_ofError (6 : Int32) h) fun x1 h1 =>
some (x1, h1)
def f_Da_weekday_b76  (s0 : Int32) (s1 : Int32) (h : gk_H) : Option ((Option Nat) × gk_H) :=
gk_ca (f_Va_ofNumber (FP.i2d (s0 + s1)) h) fun x1 h1 =>
some (x1, h1)
def f_Da_weekday (a0 : UInt64) (a1 : Int64) (h : gk_H) : Option ((Option Nat) × gk_H) :=
gk_ca (f_Da_dayOf a0 h) fun x1 h1 =>
if x1 = (-1 : Int32) then
(f_Da_weekday_b26 h1)
else
(if (lg_cmp a1 (1 : Int64)) < 0 then
(f_Da_weekday_b26 h1)
else
(if (lg_cmp a1 (3 : Int64)) ≤ 0 then
(if (lg_cmp a1 (1 : Int64)) = 0 then
(gk_ca (f_Ma_floorMod (x1 - (1 : Int32)) (7 : Int32) h1) fun x2 h2 =>
gk_ca (f_Va_ofNumber (FP.i2d (x2 + (1 : Int32))) h2) fun x3 h3 =>
some (x3, h3))
else
(gk_ca (f_Ma_floorMod (x1 - (2 : Int32)) (7 : Int32) h1) fun x4 h4 =>
if (lg_cmp a1 (2 : Int64)) = 0 then
(f_Da_weekday_b76 x4 (1 : Int32) h4)
else
(f_Da_weekday_b76 x4 (0 : Int32) h4)))
else
(f_Da_weekday_b26 h1)))
def f_Da_partOfDate (a0 : Int32) (a1 : UInt64) (h : gk_H) : Option ((Option Nat) × gk_H) :=
gk_ca (f_Da_dayOf a1 h) fun x1 h1 =>
if x1 = (-1 : Int32) then
(gk_ca (f_Va_ofError (6 : Int32) h1) fun x2 h2 =>
some (x2, h2))
else
(gk_ca (f_Da_monthOf x1 h1) fun x3 h3 =>
if a0 = (82 : Int32) then
(gk_ca (f_Va_ofNumber (FP.i2d ((1900 : Int32) + (x3 / (12 : Int32)))) h3) fun x4 h4 =>
some (x4, h4))
else if a0 = (83 : Int32) then
(gk_ca (f_Va_ofNumber (FP.i2d ((x3 - x3 / (12 : Int32) * (12 : Int32)) + (1 : Int32))) h3) fun x5 h5 =>
some (x5, h5))
else 
(gk_ca (f_Da_firstOf x3 h3) fun x6 h6 =>
gk_ca (f_Va_ofNumber (FP.i2d ((x1 - x6) + (1 : Int32))) h6) fun x7 h7 =>
some (x7, h7)))
def f_Da_date_b22   (h : gk_H) : Option ((Option Nat) × gk_H) :=
gk_ca (f_Va_ofError (6 : Int32) h) fun x1 h1 =>
some (x1, h1)
def f_Da_date_b93  (s0 : Option Nat) (h : gk_H) : Option ((Option Nat) × gk_H) :=
some (s0, h)
def f_Da_date_b45  (v2 : Int64) (v4 : Int64) (s0 : Int64) (h : gk_H) : Option ((Option Nat) × gk_H) :=
gk_let ((((s0 - (1900 : Int64)) * (12 : Int64)) + v2) - (1 : Int64)) fun x1 =>
if 0 ≤ (lg_cmp x1 (0 : Int64)) then
(gk_ca (f_Da_firstOf (Int64.toInt32 x1) h) fun x2 h1 =>
gk_ca (f_Da_ofDay (((Int32.toInt64 x2) + v4) - (1 : Int64)) h1) fun x3 h2 =>
f_Da_date_b93 x3 h2)
else
(gk_ca (f_Va_ofError (6 : Int32) h) fun x4 h3 =>
f_Da_date_b93 x4 h3)
def f_Da_date (a0 : Int64) (a1 : Int64) (a2 : Int64) (h : gk_H) : Option ((Option Nat) × gk_H) :=
gk_ca (f_Da_isShort a0 h) fun x1 h1 =>
if x1 = 0 then
(f_Da_date_b22 h1)
else
(gk_ca (f_Da_isShort a1 h1) fun x2 h2 =>
if x2 = 0 then
(f_Da_date_b22 h2)
else
(gk_ca (f_Da_isShort a2 h2) fun x3 h3 =>
if x3 = 0 then
(f_Da_date_b22 h3)
else
(if 0 ≤ (lg_cmp a0 (1900 : Int64)) then
(f_Da_date_b45 a1 a2 a0 h3)
else
(f_Da_date_b45 a1 a2 (a0 + (1900 : Int64)) h3))))
def f_Da_answer_b79  (v0 : Int32) (v1 : Option Nat) (h : gk_H) : Option ((Option Nat) × gk_H) :=
gk_cv h v1 4 (f_Ar_amount v1 (0 : Int32) h) fun x1 h1 =>
gk_ca (f_Da_partOfDate v0 x1 h1) fun x2 h2 =>
some (x2, h2)
def f_Da_answer_b104  (v0 : Int32) (v1 : Option Nat) (h : gk_H) : Option ((Option Nat) × gk_H) :=
gk_cv h v1 4 (f_Ar_amount v1 (0 : Int32) h) fun x1 h1 =>
gk_cv h1 v1 4 (f_Ar_whole v1 (1 : Int32) h1) fun x2 h2 =>
gk_ca (f_Da_monthsOn v0 x1 x2 h2) fun x3 h3 =>
some (x3, h3)
def f_Da_answer_b138  (v0 : Int32) (v1 : Option Nat) (h : gk_H) : Option ((Option Nat) × gk_H) :=
gk_cv h v1 4 (f_Ar_amount v1 (0 : Int32) h) fun x1 h1 =>
gk_ca (f_Da_partOfDay v0 x1 h1) fun x2 h2 =>
some (x2, h2)
def f_Da_answer (a0 : Int32) (a1 : Option Nat) (h : gk_H) : Option ((Option Nat) × gk_H) :=
if a0 = (81 : Int32) then
(gk_cv h a1 4 (f_Ar_whole a1 (0 : Int32) h) fun x1 h1 =>
gk_cv h1 a1 4 (f_Ar_whole a1 (1 : Int32) h1) fun x2 h2 =>
gk_cv h2 a1 4 (f_Ar_whole a1 (2 : Int32) h2) fun x3 h3 =>
gk_ca (f_Da_date x1 x2 x3 h3) fun x4 h4 =>
some (x4, h4))
else if a0 = (82 : Int32) then
(f_Da_answer_b79 a0 a1 h)
else if a0 = (83 : Int32) then
(f_Da_answer_b79 a0 a1 h)
else if a0 = (84 : Int32) then
(f_Da_answer_b79 a0 a1 h)
else if a0 = (85 : Int32) then
(gk_cv h a1 4 (f_Ar_amount a1 (0 : Int32) h) fun x5 h5 =>
gk_cv h5 a1 4 (f_Ar_wholeOr a1 (1 : Int32) (1 : Int64) h5) fun x6 h6 =>
gk_ca (f_Da_weekday x5 x6 h6) fun x7 h7 =>
some (x7, h7))
else if a0 = (86 : Int32) then
(f_Da_answer_b104 a0 a1 h)
else if a0 = (87 : Int32) then
(f_Da_answer_b104 a0 a1 h)
else if a0 = (88 : Int32) then
(gk_cv h a1 4 (f_Ar_whole a1 (0 : Int32) h) fun x8 h8 =>
gk_cv h8 a1 4 (f_Ar_whole a1 (1 : Int32) h8) fun x9 h9 =>
gk_cv h9 a1 4 (f_Ar_whole a1 (2 : Int32) h9) fun x10 h10 =>
gk_ca (f_Da_time x8 x9 x10 h10) fun x11 h11 =>
some (x11, h11))
else if a0 = (89 : Int32) then
(f_Da_answer_b138 a0 a1 h)
else if a0 = (90 : Int32) then
(f_Da_answer_b138 a0 a1 h)
else if a0 = (91 : Int32) then
(f_Da_answer_b138 a0 a1 h)
else 
(gk_ca (f_Va_ofError (3 : Int32) h) fun x12 h12 =>
some (x12, h12))
def f_A_call_b20   (h : gk_H) : Option ((Sum (Unit) String) × gk_H) :=
some (.inr "java/lang/IllegalArgumentException", gk_thrown h)
def f_A_call_b48   (h : gk_H) : Option ((Sum (Unit) String) × gk_H) :=
some (.inr "java/lang/IllegalArgumentException", gk_thrown h)
def f_A_call_b216  (v0 : Option Nat) (v2 : Int32) (v3 : Option Nat) (h : gk_H) : Option ((Sum (Unit) String) × gk_H) :=
((gk_get h v0 5 3).bind gk_asR).bind fun x1 =>
gk_cv h x1 4 (f_Ar_faultOr x1 v3 h) fun x2 h1 =>
gk_cx h1 v0 5 (f_A_replaceUpper v0 v2 x2 h1) (fun _ h2 =>
some (.inl (), h2)) Sum.inr
def f_A_call_b99  (v0 : Option Nat) (v1 : Int32) (v2 : Int32) (h : gk_H) : Option ((Sum (Unit) String) × gk_H) :=
((gk_get h v0 5 3).bind gk_asR).bind fun x1 =>
((gk_get h v0 5 0).bind gk_asR).bind fun x2 =>
((gk_get h v0 5 1).bind gk_asI).bind fun x3 =>
gk_cv h x1 4 (f_Ar_take x1 x2 (x3 - v2) v2 h) fun _ h1 =>
if (18 : Int32) < v1 then
(if (34 : Int32) < v1 then
(if (55 : Int32) < v1 then
(if (73 : Int32) < v1 then
(if (80 : Int32) < v1 then
(((gk_get h1 v0 5 3).bind gk_asR).bind fun x4 =>
gk_ca (f_Da_answer v1 x4 h1) fun x5 h2 =>
f_A_call_b216 v0 v2 x5 h2)
else
(((gk_get h1 v0 5 3).bind gk_asR).bind fun x6 =>
gk_ca (f_Lo_answer v1 x6 h1) fun x7 h3 =>
f_A_call_b216 v0 v2 x7 h3))
else
(((gk_get h1 v0 5 3).bind gk_asR).bind fun x8 =>
gk_ca (f_Wo_answer v1 x8 h1) fun x9 h4 =>
f_A_call_b216 v0 v2 x9 h4))
else
(((gk_get h1 v0 5 3).bind gk_asR).bind fun x10 =>
gk_ca (f_Ch_answer v1 x10 h1) fun x11 h5 =>
f_A_call_b216 v0 v2 x11 h5))
else
(((gk_get h1 v0 5 3).bind gk_asR).bind fun x12 =>
gk_ca (f_Am_answer v1 x12 h1) fun x13 h6 =>
f_A_call_b216 v0 v2 x13 h6))
else
(((gk_get h1 v0 5 3).bind gk_asR).bind fun x14 =>
gk_ca (f_Su_answer v1 x14 h1) fun x15 h7 =>
f_A_call_b216 v0 v2 x15 h7)
def f_A_call (a0 : Option Nat) (a1 : Int32) (a2 : Int32) (h : gk_H) : Option ((Sum (Unit) String) × gk_H) :=
if a1 < 0 then
(f_A_call_b20 h)
else
((gk_asR (gk_gs h 2)).bind fun x1 =>
(gk_len h x1).bind fun x2 =>
if x2 ≤ a1 then
(f_A_call_b20 h)
else
((gk_asR (gk_gs h 3)).bind fun x3 =>
(gk_len h x3).bind fun x4 =>
if a1 < x4 then
((gk_asR (gk_gs h 2)).bind fun x5 =>
((gk_ald h x5 1 a1).bind gk_asI).bind fun x6 =>
if a2 < x6 then
(f_A_call_b48 h)
else
((gk_asR (gk_gs h 3)).bind fun x7 =>
((gk_ald h x7 1 a1).bind gk_asI).bind fun x8 =>
if a2 ≤ x8 then
(((gk_get h a0 5 1).bind gk_asI).bind fun x9 =>
if a2 ≤ x9 then
(if a2 = 0 then
(((gk_get h a0 5 1).bind gk_asI).bind fun x10 =>
if x10 < (16 : Int32) then
(f_A_call_b99 a0 a1 a2 h)
else
(some (.inr "java/lang/IllegalStateException", gk_thrown h)))
else
(f_A_call_b99 a0 a1 a2 h))
else
(some (.inr "java/lang/IllegalArgumentException", gk_thrown h)))
else
(f_A_call_b48 h)))
else
(f_A_call_b20 h)))
def f_A_drop (a0 : Option Nat) (h : gk_H) : Option ((Sum (Unit) String) × gk_H) :=
((gk_get h a0 5 1).bind gk_asI).bind fun x1 =>
if x1 = 0 then
(some (.inr "java/lang/IllegalStateException", gk_thrown h))
else
(((gk_get h a0 5 1).bind gk_asI).bind fun x2 =>
(gk_set h a0 5 1 (.int (x2 - (1 : Int32)))).bind fun h1 =>
((gk_get h1 a0 5 0).bind gk_asR).bind fun x3 =>
((gk_get h1 a0 5 1).bind gk_asI).bind fun x4 =>
(gk_ast h1 x3 7 x4 (va_rf none)).bind fun h2 =>
some (.inl (), h2))
def f_A_atDepth_b12   (h : gk_H) : Option ((Sum (Option Nat) String) × gk_H) :=
some (.inr "java/lang/IndexOutOfBoundsException", gk_thrown h)
def f_A_atDepth (a0 : Option Nat) (a1 : Int32) (h : gk_H) : Option ((Sum (Option Nat) String) × gk_H) :=
if a1 < 0 then
(f_A_atDepth_b12 h)
else
(((gk_get h a0 5 1).bind gk_asI).bind fun x1 =>
if a1 < x1 then
(((gk_get h a0 5 0).bind gk_asR).bind fun x2 =>
((gk_get h a0 5 1).bind gk_asI).bind fun x3 =>
((gk_ald h x2 7 ((x3 - (1 : Int32)) - a1)).bind gk_asR).bind fun x4 =>
some (.inl x4, h))
else
(f_A_atDepth_b12 h))
def f_A_again (a0 : Option Nat) (a1 : Int32) (h : gk_H) : Option ((Sum (Unit) String) × gk_H) :=
gk_cx h a0 5 (f_A_atDepth a0 a1 h) (fun x1 h1 =>
gk_cx h1 a0 5 (f_A_push a0 x1 h1) (fun _ h2 =>
some (.inl (), h2)) Sum.inr) Sum.inr
def f_A_about (a0 : Option Nat) (a1 : Int32) (a2 : Int32) (h : gk_H) : Option ((Sum (Int32) String) × gk_H) :=
gk_cx h a0 5 (f_A_atDepth a0 a1 h) (fun x1 h1 =>
if a2 = (0 : Int32) then
(((gk_get h1 x1 2 0).bind gk_asI).bind fun x2 =>
some (.inl x2, h1))
else if a2 = (1 : Int32) then
(((gk_get h1 x1 2 4).bind gk_asI).bind fun x3 =>
some (.inl x3, h1))
else if a2 = (2 : Int32) then
(((gk_get h1 x1 2 5).bind gk_asI).bind fun x4 =>
some (.inl x4, h1))
else 
(some (.inr "java/lang/IllegalArgumentException", gk_thrown h1))) Sum.inr
def f_A_cellAtDepth_b33   (h : gk_H) : Option ((Sum (Option Nat) String) × gk_H) :=
some (.inr "java/lang/IndexOutOfBoundsException", gk_thrown h)
def f_A_cellAtDepth (a0 : Option Nat) (a1 : Int32) (a2 : Int32) (a3 : Int32) (h : gk_H) : Option ((Sum (Option Nat) String) × gk_H) :=
gk_cx h a0 5 (f_A_atDepth a0 a1 h) (fun x1 h1 =>
if a2 < 0 then
(f_A_cellAtDepth_b33 h1)
else
(((gk_get h1 x1 2 4).bind gk_asI).bind fun x2 =>
if x2 ≤ a2 then
(f_A_cellAtDepth_b33 h1)
else
(if a3 < 0 then
(f_A_cellAtDepth_b33 h1)
else
(((gk_get h1 x1 2 5).bind gk_asI).bind fun x3 =>
if a3 < x3 then
(((gk_get h1 x1 2 5).bind gk_asI).bind fun x4 =>
gk_cv h1 x1 2 (f_Va_cellAt x1 ((a2 * x4) + a3) h1) fun x5 h2 =>
some (.inl x5, h2))
else
(f_A_cellAtDepth_b33 h1))))) Sum.inr
def f_A_cell_b67  (s0 : Int32) (h : gk_H) : Option ((Sum (Int32) String) × gk_H) :=
some (.inl s0, h)
def f_A_cell (a0 : Option Nat) (a1 : Int32) (a2 : Int32) (a3 : Int32) (a4 : Int32) (h : gk_H) : Option ((Sum (Int32) String) × gk_H) :=
gk_cx h a0 5 (f_A_cellAtDepth a0 a1 a2 a3 h) (fun x1 h1 =>
if a4 = (0 : Int32) then
(((gk_get h1 x1 2 0).bind gk_asI).bind fun x2 =>
some (.inl x2, h1))
else if a4 = (1 : Int32) then
(((gk_get h1 x1 2 0).bind gk_asI).bind fun x3 =>
if x3 = (2 : Int32) then
(((gk_get h1 x1 2 3).bind gk_asR).bind fun x4 =>
gk_cv h1 x4 0 (f_St_length x4 h1) fun x5 h2 =>
f_A_cell_b67 x5 h2)
else
(((gk_get h1 x1 2 1).bind gk_asI).bind fun x6 =>
f_A_cell_b67 x6 h1))
else 
(some (.inr "java/lang/IllegalArgumentException", gk_thrown h1))) Sum.inr
def f_A_value (a0 : Option Nat) (a1 : Int32) (a2 : Int32) (a3 : Int32) (h : gk_H) : Option ((Sum (UInt64) String) × gk_H) :=
gk_cx h a0 5 (f_A_cellAtDepth a0 a1 a2 a3 h) (fun x1 h1 =>
((gk_get h1 x1 2 2).bind gk_asD).bind fun x2 =>
some (.inl x2, h1)) Sum.inr
def f_A_letter_b38  (s0 : Int32) (h : gk_H) : Option ((Sum (Int32) String) × gk_H) :=
some (.inl s0, h)
def f_A_letter_b37   (h : gk_H) : Option ((Sum (Int32) String) × gk_H) :=
f_A_letter_b38 (-1 : Int32) h
def f_A_letter (a0 : Option Nat) (a1 : Int32) (a2 : Int32) (a3 : Int32) (a4 : Int32) (h : gk_H) : Option ((Sum (Int32) String) × gk_H) :=
gk_cx h a0 5 (f_A_cellAtDepth a0 a1 a2 a3 h) (fun x1 h1 =>
((gk_get h1 x1 2 3).bind gk_asR).bind fun x2 =>
if a4 < 0 then
(f_A_letter_b37 h1)
else
(gk_cv h1 x2 0 (f_St_length x2 h1) fun x3 h2 =>
if x3 ≤ a4 then
(f_A_letter_b37 h2)
else
(gk_cv h2 x2 0 (f_St_charAt x2 a4 h2) fun x4 h3 =>
f_A_letter_b38 x4 h3))) Sum.inr
