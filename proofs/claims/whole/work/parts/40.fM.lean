/-! GENERATED: functions -/
def f_M_init (a0 : Option Nat) (h : gk_H) : Option (Unit × gk_H) :=
a0.bind fun _ =>
gk_na h 3 (256 : Int32) fun x1 h1 =>
(gk_set h1 a0 7 2 (va_rf x1)).bind fun h2 =>
gk_na h2 1 (17 : Int32) fun x2 h3 =>
(gk_set h3 a0 7 4 (va_rf x2)).bind fun h4 =>
gk_na h4 1 (17 : Int32) fun x3 h5 =>
(gk_set h5 a0 7 5 (va_rf x3)).bind fun h6 =>
gk_na h6 1 (17 : Int32) fun x4 h7 =>
(gk_set h7 a0 7 6 (va_rf x4)).bind fun h8 =>
gk_na h8 1 (272 : Int32) fun x5 h9 =>
(gk_set h9 a0 7 7 (va_rf x5)).bind fun h10 =>
gk_na h10 6 (272 : Int32) fun x6 h11 =>
(gk_set h11 a0 7 8 (va_rf x6)).bind fun h12 =>
gk_na h12 1 (272 : Int32) fun x7 h13 =>
(gk_set h13 a0 7 9 (va_rf x7)).bind fun h14 =>
gk_na h14 3 (69632 : Int32) fun x8 h15 =>
(gk_set h15 a0 7 10 (va_rf x8)).bind fun h16 =>
gk_na h16 6 (128 : Int32) fun x9 h17 =>
(gk_set h17 a0 7 13 (va_rf x9)).bind fun h18 =>
gk_na h18 1 (9 : Int32) fun x10 h19 =>
(gk_set h19 a0 7 14 (va_rf x10)).bind fun h20 =>
gk_na h20 3 (2304 : Int32) fun x11 h21 =>
(gk_set h21 a0 7 15 (va_rf x11)).bind fun h22 =>
some ((), h22)
def f_M_thrown (a0 : Option Nat) (h : gk_H) : Option (Int32 × gk_H) :=
((gk_get h a0 7 0).bind gk_asI).bind fun x1 =>
some (x1, h)
def f_M_isFull_b55  (s0 : Int32) (h : gk_H) : Option (Int32 × gk_H) :=
if narrow .boolean (.int s0) = .int s0 then some (s0, h) else none
def f_M_isFull_b50   (h : gk_H) : Option (Int32 × gk_H) :=
f_M_isFull_b55 (1 : Int32) h
def f_M_isFull_b4  : Nat → Option Nat → Int32 → Int32 → gk_H → Option (Int32 × gk_H)
  | 0 => fun _ _ _ _ => none
  | fu + 1 => fun v0 v2 v3 h =>
((gk_get h v0 7 3).bind gk_asI).bind fun x1 =>
if x1 ≤ v3 then
(((gk_get h v0 7 3).bind gk_asI).bind fun x2 =>
if x2 = (16 : Int32) then
(f_M_isFull_b50 h)
else
(if v2 ≤ (256 : Int32) then
(f_M_isFull_b55 (0 : Int32) h)
else
(f_M_isFull_b50 h)))
else
(((gk_get h v0 7 5).bind gk_asR).bind fun x3 =>
((gk_ald h x3 1 v3).bind gk_asI).bind fun x4 =>
((gk_get h v0 7 6).bind gk_asR).bind fun x5 =>
((gk_ald h x5 1 v3).bind gk_asI).bind fun x6 =>
gk_let (v2 + (x4 * x6)) fun x7 =>
gk_let (v3 + (1 : Int32)) fun x8 =>
(f_M_isFull_b4 fu) v0 x7 x8 h)
def f_M_isFull (a0 : Option Nat) (a1 : Int32) (h : gk_H) : Option (Int32 × gk_H) :=
f_M_isFull_b4 gk_F a0 a1 (0 : Int32) h
def f_M_setSingle_b50  (v0 : Option Nat) (v1 : Int32) (s0 : Option Nat) (s1 : Int32) (s2 : UInt64) (h : gk_H) : Option (Unit × gk_H) :=
(gk_ast h s0 6 s1 (.double s2)).bind fun h1 =>
((gk_get h1 v0 7 9).bind gk_asR).bind fun x1 =>
(gk_ast h1 x1 1 ((16 : Int32) * v1) (.int (0 : Int32))).bind fun h2 =>
some ((), h2)
def f_M_setSingle (a0 : Option Nat) (a1 : Int32) (a2 : Int32) (a3 : UInt64) (h : gk_H) : Option (Unit × gk_H) :=
((gk_get h a0 7 4).bind gk_asR).bind fun x1 =>
(gk_ast h x1 1 a1 (.int a2)).bind fun h1 =>
((gk_get h1 a0 7 5).bind gk_asR).bind fun x2 =>
(gk_ast h1 x2 1 a1 (.int (1 : Int32))).bind fun h2 =>
((gk_get h2 a0 7 6).bind gk_asR).bind fun x3 =>
(gk_ast h2 x3 1 a1 (.int (1 : Int32))).bind fun h3 =>
((gk_get h3 a0 7 7).bind gk_asR).bind fun x4 =>
(gk_ast h3 x4 1 ((16 : Int32) * a1) (.int a2)).bind fun h4 =>
((gk_get h4 a0 7 8).bind gk_asR).bind fun x5 =>
if (Op.cmpValue (FP.dcmp a3 (0x0000000000000000)) .l) = 0 then
(f_M_setSingle_b50 a0 a1 x5 ((16 : Int32) * a1) (0x0000000000000000) h4)
else
(f_M_setSingle_b50 a0 a1 x5 ((16 : Int32) * a1) a3 h4)
def f_M_number_b14  (v0 : Option Nat) (v1 : UInt64) (s0 : Option Nat) (s1 : Int32) (h : gk_H) : Option (Unit × gk_H) :=
(gk_set h s0 7 0 (.int s1)).bind fun h1 =>
((gk_get h1 v0 7 0).bind gk_asI).bind fun x1 =>
if x1 ≤ 0 then
(((gk_get h1 v0 7 3).bind gk_asI).bind fun x2 =>
gk_cv h1 v0 7 (f_M_setSingle v0 x2 (1 : Int32) v1 h1) fun _ h2 =>
((gk_get h2 v0 7 3).bind gk_asI).bind fun x3 =>
(gk_set h2 v0 7 3 (.int (x3 + (1 : Int32)))).bind fun h3 =>
some ((), h3))
else
(some ((), h1))
def f_M_number (a0 : Option Nat) (a1 : UInt64) (h : gk_H) : Option (Unit × gk_H) :=
gk_cv h a0 7 (f_M_isFull a0 (1 : Int32) h) fun x1 h1 =>
if x1 = 0 then
(f_M_number_b14 a0 a1 a0 (0 : Int32) h1)
else
(f_M_number_b14 a0 a1 a0 (1 : Int32) h1)
def f_M_type_b167 (b118 : Option Nat → Int32 → Int32 → gk_H → Option (Int32 × gk_H)) (v0 : Option Nat) (v1 : Int32) (v4 : Int32) (h : gk_H) : Option (Int32 × gk_H) :=
gk_let (v4 + (1 : Int32)) fun x1 =>
b118 v0 v1 x1 h
def f_M_type_b118  : Nat → Option Nat → Int32 → Int32 → gk_H → Option (Int32 × gk_H)
  | 0 => fun _ _ _ _ => none
  | fu + 1 => fun v0 v1 v4 h =>
if (4 : Int32) ≤ v4 then
(((gk_get h v0 7 1).bind gk_asI).bind fun x1 =>
some (x1, h))
else
(gk_let ((v1 >>> (((24 : Int32) - ((8 : Int32) * v4)) &&& 31)) &&& (255 : Int32)) fun x2 =>
if x2 ≤ 0 then
(f_M_type_b167 (f_M_type_b118 fu) v0 v1 v4 h)
else
(((gk_get h v0 7 2).bind gk_asR).bind fun x3 =>
((gk_get h v0 7 1).bind gk_asI).bind fun x4 =>
(gk_ast h x3 3 x4 (.int (Int8.toInt32 (Int32.toInt8 x2)))).bind fun h1 =>
((gk_get h1 v0 7 1).bind gk_asI).bind fun x5 =>
(gk_set h1 v0 7 1 (.int (x5 + (1 : Int32)))).bind fun h2 =>
f_M_type_b167 (f_M_type_b118 fu) v0 v1 v4 h2))
def f_M_type_b103  (v0 : Option Nat) (v1 : Int32) (s0 : Option Nat) (s1 : Int32) (h : gk_H) : Option (Int32 × gk_H) :=
(gk_set h s0 7 0 (.int s1)).bind fun h1 =>
((gk_get h1 v0 7 0).bind gk_asI).bind fun x1 =>
if x1 ≤ 0 then
(f_M_type_b118 gk_F v0 v1 (0 : Int32) h1)
else
(some ((0 : Int32), h1))
def f_M_type_b70 (b7 : Option Nat → Int32 → Int32 → Int32 → Int32 → gk_H → Option (Int32 × gk_H)) (v0 : Option Nat) (v1 : Int32) (v2 : Int32) (v4 : Int32) (s0 : Int32) (h : gk_H) : Option (Int32 × gk_H) :=
gk_let (v4 + (1 : Int32)) fun x1 =>
b7 v0 v1 v2 s0 x1 h
def f_M_type_b65 (b7 : Option Nat → Int32 → Int32 → Int32 → Int32 → gk_H → Option (Int32 × gk_H)) (v0 : Option Nat) (v1 : Int32) (v2 : Int32) (v4 : Int32) (h : gk_H) : Option (Int32 × gk_H) :=
f_M_type_b70 b7 v0 v1 v2 v4 (1 : Int32) h
def f_M_type_b69 (b7 : Option Nat → Int32 → Int32 → Int32 → Int32 → gk_H → Option (Int32 × gk_H)) (v0 : Option Nat) (v1 : Int32) (v2 : Int32) (v4 : Int32) (h : gk_H) : Option (Int32 × gk_H) :=
f_M_type_b70 b7 v0 v1 v2 v4 (0 : Int32) h
def f_M_type_b41 (b7 : Option Nat → Int32 → Int32 → Int32 → Int32 → gk_H → Option (Int32 × gk_H)) (v0 : Option Nat) (v1 : Int32) (v3 : Int32) (v4 : Int32) (v5 : Int32) (s0 : Int32) (h : gk_H) : Option (Int32 × gk_H) :=
if v3 = 0 then
(if v5 ≤ 0 then
(f_M_type_b69 b7 v0 v1 s0 v4 h)
else
(if v5 < (32 : Int32) then
(f_M_type_b65 b7 v0 v1 s0 v4 h)
else
(if v5 ≤ (126 : Int32) then
(f_M_type_b69 b7 v0 v1 s0 v4 h)
else
(f_M_type_b65 b7 v0 v1 s0 v4 h))))
else
(f_M_type_b65 b7 v0 v1 s0 v4 h)
def f_M_type_b7  : Nat → Option Nat → Int32 → Int32 → Int32 → Int32 → gk_H → Option (Int32 × gk_H)
  | 0 => fun _ _ _ _ _ _ => none
  | fu + 1 => fun v0 v1 v2 v3 v4 h =>
if (4 : Int32) ≤ v4 then
(if v3 = 0 then
(((gk_get h v0 7 1).bind gk_asI).bind fun x1 =>
if (x1 + v2) ≤ (255 : Int32) then
(f_M_type_b103 v0 v1 v0 (0 : Int32) h)
else
(f_M_type_b103 v0 v1 v0 (2 : Int32) h))
else
(f_M_type_b103 v0 v1 v0 (1 : Int32) h))
else
(gk_let ((v1 >>> (((24 : Int32) - ((8 : Int32) * v4)) &&& 31)) &&& (255 : Int32)) fun x2 =>
if x2 ≤ 0 then
(f_M_type_b41 (f_M_type_b7 fu) v0 v1 v3 v4 x2 v2 h)
else
(f_M_type_b41 (f_M_type_b7 fu) v0 v1 v3 v4 x2 (v2 + (1 : Int32)) h))
def f_M_type (a0 : Option Nat) (a1 : Int32) (h : gk_H) : Option (Int32 × gk_H) :=
f_M_type_b7 gk_F a0 a1 (0 : Int32) (0 : Int32) (0 : Int32) h
def f_M_text_b53  : Nat → Option Nat → Int32 → gk_H → Option (Unit × gk_H)
  | 0 => fun _ _ _ => none
  | fu + 1 => fun v0 v1 h =>
((gk_get h v0 7 1).bind gk_asI).bind fun x1 =>
if x1 ≤ v1 then
((gk_set h v0 7 1 (.int (0 : Int32))).bind fun h1 =>
((gk_get h1 v0 7 3).bind gk_asI).bind fun x2 =>
(gk_set h1 v0 7 3 (.int (x2 + (1 : Int32)))).bind fun h2 =>
some ((), h2))
else
(((gk_get h v0 7 10).bind gk_asR).bind fun x3 =>
((gk_get h v0 7 3).bind gk_asI).bind fun x4 =>
((gk_get h v0 7 2).bind gk_asR).bind fun x5 =>
((gk_ald h x5 3 v1).bind gk_asI).bind fun x6 =>
(gk_ast h x3 3 (((4096 : Int32) * x4) + v1) (.int x6)).bind fun h3 =>
gk_let (v1 + (1 : Int32)) fun x7 =>
(f_M_text_b53 fu) v0 x7 h3)
def f_M_text_b14  (v0 : Option Nat) (s0 : Option Nat) (s1 : Int32) (h : gk_H) : Option (Unit × gk_H) :=
(gk_set h s0 7 0 (.int s1)).bind fun h1 =>
((gk_get h1 v0 7 0).bind gk_asI).bind fun x1 =>
if x1 ≤ 0 then
(((gk_get h1 v0 7 3).bind gk_asI).bind fun x2 =>
gk_cv h1 v0 7 (f_M_setSingle v0 x2 (2 : Int32) (0x0000000000000000) h1) fun _ h2 =>
((gk_get h2 v0 7 9).bind gk_asR).bind fun x3 =>
((gk_get h2 v0 7 3).bind gk_asI).bind fun x4 =>
((gk_get h2 v0 7 1).bind gk_asI).bind fun x5 =>
(gk_ast h2 x3 1 ((16 : Int32) * x4) (.int x5)).bind fun h3 =>
f_M_text_b53 gk_F v0 (0 : Int32) h3)
else
(some ((), h1))
def f_M_text (a0 : Option Nat) (h : gk_H) : Option (Unit × gk_H) :=
gk_cv h a0 7 (f_M_isFull a0 (1 : Int32) h) fun x1 h1 =>
if x1 = 0 then
(f_M_text_b14 a0 a0 (0 : Int32) h1)
else
(f_M_text_b14 a0 a0 (1 : Int32) h1)
def f_M_plain_b89  (v0 : Option Nat) (s0 : Option Nat) (s1 : Int32) (s2 : Int32) (s3 : UInt64) (h : gk_H) : Option (Unit × gk_H) :=
gk_cv h s0 7 (f_M_setSingle s0 s1 s2 s3 h) fun _ h1 =>
((gk_get h1 v0 7 3).bind gk_asI).bind fun x1 =>
(gk_set h1 v0 7 3 (.int (x1 + (1 : Int32)))).bind fun h2 =>
some ((), h2)
def f_M_plain_b62  (v0 : Option Nat) (v1 : Int32) (v2 : Int32) (s0 : Option Nat) (s1 : Int32) (h : gk_H) : Option (Unit × gk_H) :=
(gk_set h s0 7 0 (.int s1)).bind fun h1 =>
((gk_get h1 v0 7 0).bind gk_asI).bind fun x1 =>
if x1 ≤ 0 then
(((gk_get h1 v0 7 3).bind gk_asI).bind fun x2 =>
if v1 = 0 then
(f_M_plain_b89 v0 v0 x2 v1 (0x0000000000000000) h1)
else
(f_M_plain_b89 v0 v0 x2 v1 (FP.i2d v2) h1))
else
(some ((), h1))
def f_M_plain_b39  (v0 : Option Nat) (v1 : Int32) (v2 : Int32) (s0 : Int32) (h : gk_H) : Option (Unit × gk_H) :=
if s0 = 0 then
(f_M_plain_b62 v0 v1 v2 v0 (1 : Int32) h)
else
(gk_cv h v0 7 (f_M_isFull v0 (1 : Int32) h) fun x1 h1 =>
if x1 = 0 then
(f_M_plain_b62 v0 v1 v2 v0 (0 : Int32) h1)
else
(f_M_plain_b62 v0 v1 v2 v0 (2 : Int32) h1))
def f_M_plain_b34  (v0 : Option Nat) (v1 : Int32) (v2 : Int32) (h : gk_H) : Option (Unit × gk_H) :=
f_M_plain_b39 v0 v1 v2 (1 : Int32) h
def f_M_plain_b38  (v0 : Option Nat) (v1 : Int32) (v2 : Int32) (h : gk_H) : Option (Unit × gk_H) :=
f_M_plain_b39 v0 v1 v2 (0 : Int32) h
def f_M_plain_b18  (v0 : Option Nat) (v1 : Int32) (v2 : Int32) (h : gk_H) : Option (Unit × gk_H) :=
if v1 = (4 : Int32) then
(if v2 < (1 : Int32) then
(f_M_plain_b38 v0 v1 v2 h)
else
(if (8 : Int32) < v2 then
(f_M_plain_b38 v0 v1 v2 h)
else
(f_M_plain_b34 v0 v1 v2 h)))
else
(f_M_plain_b38 v0 v1 v2 h)
def f_M_plain (a0 : Option Nat) (a1 : Int32) (a2 : Int32) (h : gk_H) : Option (Unit × gk_H) :=
if a1 = 0 then
(f_M_plain_b34 a0 a1 a2 h)
else
(if a1 = (3 : Int32) then
(if a2 = 0 then
(f_M_plain_b34 a0 a1 a2 h)
else
(if a2 = (1 : Int32) then
(f_M_plain_b34 a0 a1 a2 h)
else
(f_M_plain_b18 a0 a1 a2 h)))
else
(f_M_plain_b18 a0 a1 a2 h))
def f_M_copyCell_b38  : Nat → Option Nat → Int32 → Int32 → Int32 → gk_H → Option (Unit × gk_H)
  | 0 => fun _ _ _ _ _ => none
  | fu + 1 => fun v0 v1 v2 v3 h =>
((gk_get h v0 7 9).bind gk_asR).bind fun x1 =>
((gk_ald h x1 1 v1).bind gk_asI).bind fun x2 =>
if x2 ≤ v3 then
(some ((), h))
else
(((gk_get h v0 7 10).bind gk_asR).bind fun x3 =>
((gk_get h v0 7 10).bind gk_asR).bind fun x4 =>
((gk_ald h x4 3 (((256 : Int32) * v1) + v3)).bind gk_asI).bind fun x5 =>
(gk_ast h x3 3 (((256 : Int32) * v2) + v3) (.int x5)).bind fun h1 =>
gk_let (v3 + (1 : Int32)) fun x6 =>
(f_M_copyCell_b38 fu) v0 v1 v2 x6 h1)
def f_M_copyCell (a0 : Option Nat) (a1 : Int32) (a2 : Int32) (h : gk_H) : Option (Unit × gk_H) :=
((gk_get h a0 7 7).bind gk_asR).bind fun x1 =>
((gk_get h a0 7 7).bind gk_asR).bind fun x2 =>
((gk_ald h x2 1 a1).bind gk_asI).bind fun x3 =>
(gk_ast h x1 1 a2 (.int x3)).bind fun h1 =>
((gk_get h1 a0 7 8).bind gk_asR).bind fun x4 =>
((gk_get h1 a0 7 8).bind gk_asR).bind fun x5 =>
((gk_ald h1 x5 6 a1).bind gk_asD).bind fun x6 =>
(gk_ast h1 x4 6 a2 (.double x6)).bind fun h2 =>
((gk_get h2 a0 7 9).bind gk_asR).bind fun x7 =>
((gk_get h2 a0 7 9).bind gk_asR).bind fun x8 =>
((gk_ald h2 x8 1 a1).bind gk_asI).bind fun x9 =>
(gk_ast h2 x7 1 a2 (.int x9)).bind fun h3 =>
f_M_copyCell_b38 gk_F a0 a1 a2 (0 : Int32) h3
def f_M_array_b121  : Nat → Option Nat → Int32 → Int32 → Int32 → Int32 → gk_H → Option (Unit × gk_H)
  | 0 => fun _ _ _ _ _ _ => none
  | fu + 1 => fun v0 v1 v2 v4 v5 h =>
if (v1 * v2) ≤ v5 then
(((gk_get h v0 7 4).bind gk_asR).bind fun x1 =>
(gk_ast h x1 1 v4 (.int (5 : Int32))).bind fun h1 =>
((gk_get h1 v0 7 5).bind gk_asR).bind fun x2 =>
(gk_ast h1 x2 1 v4 (.int v1)).bind fun h2 =>
((gk_get h2 v0 7 6).bind gk_asR).bind fun x3 =>
(gk_ast h2 x3 1 v4 (.int v2)).bind fun h3 =>
(gk_set h3 v0 7 3 (.int (v4 + (1 : Int32)))).bind fun h4 =>
some ((), h4))
else
(gk_cv h v0 7 (f_M_copyCell v0 ((16 : Int32) * (v4 + v5)) (((16 : Int32) * v4) + v5) h) fun _ h5 =>
gk_let (v5 + (1 : Int32)) fun x4 =>
(f_M_array_b121 fu) v0 v1 v2 v4 x4 h5)
def f_M_array_b97  (v0 : Option Nat) (v1 : Int32) (v2 : Int32) (s0 : Option Nat) (s1 : Int32) (h : gk_H) : Option (Unit × gk_H) :=
(gk_set h s0 7 0 (.int s1)).bind fun h1 =>
((gk_get h1 v0 7 0).bind gk_asI).bind fun x1 =>
if x1 ≤ 0 then
(((gk_get h1 v0 7 3).bind gk_asI).bind fun x2 =>
gk_let (x2 - (v1 * v2)) fun x3 =>
f_M_array_b121 gk_F v0 v1 v2 x3 (1 : Int32) h1)
else
(some ((), h1))
def f_M_array_b80 (b51 : Option Nat → Int32 → Int32 → Int32 → Int32 → gk_H → Option (Unit × gk_H)) (v0 : Option Nat) (v1 : Int32) (v2 : Int32) (v4 : Int32) (s0 : Int32) (h : gk_H) : Option (Unit × gk_H) :=
gk_let (v4 + (1 : Int32)) fun x1 =>
b51 v0 v1 v2 s0 x1 h
def f_M_array_b79 (b51 : Option Nat → Int32 → Int32 → Int32 → Int32 → gk_H → Option (Unit × gk_H)) (v0 : Option Nat) (v1 : Int32) (v2 : Int32) (v4 : Int32) (h : gk_H) : Option (Unit × gk_H) :=
f_M_array_b80 b51 v0 v1 v2 v4 (0 : Int32) h
def f_M_array_b51  : Nat → Option Nat → Int32 → Int32 → Int32 → Int32 → gk_H → Option (Unit × gk_H)
  | 0 => fun _ _ _ _ _ _ => none
  | fu + 1 => fun v0 v1 v2 v3 v4 h =>
((gk_get h v0 7 3).bind gk_asI).bind fun x1 =>
if x1 ≤ v4 then
(if v3 = 0 then
(f_M_array_b97 v0 v1 v2 v0 (1 : Int32) h)
else
(f_M_array_b97 v0 v1 v2 v0 (0 : Int32) h))
else
(if v3 = 0 then
(f_M_array_b79 (f_M_array_b51 fu) v0 v1 v2 v4 h)
else
(((gk_get h v0 7 4).bind gk_asR).bind fun x2 =>
((gk_ald h x2 1 v4).bind gk_asI).bind fun x3 =>
if (5 : Int32) ≤ x3 then
(f_M_array_b79 (f_M_array_b51 fu) v0 v1 v2 v4 h)
else
(f_M_array_b80 (f_M_array_b51 fu) v0 v1 v2 v4 (1 : Int32) h)))
def f_M_array_b49  (v0 : Option Nat) (v1 : Int32) (v2 : Int32) (v3 : Int32) (s0 : Int32) (h : gk_H) : Option (Unit × gk_H) :=
f_M_array_b51 gk_F v0 v1 v2 v3 s0 h
def f_M_array_b29  (v0 : Option Nat) (v1 : Int32) (v2 : Int32) (s0 : Int32) (h : gk_H) : Option (Unit × gk_H) :=
if s0 = 0 then
(((gk_get h v0 7 3).bind gk_asI).bind fun x1 =>
f_M_array_b49 v0 v1 v2 s0 x1 h)
else
(((gk_get h v0 7 3).bind gk_asI).bind fun x2 =>
f_M_array_b49 v0 v1 v2 s0 (x2 - (v1 * v2)) h)
def f_M_array_b28  (v0 : Option Nat) (v1 : Int32) (v2 : Int32) (h : gk_H) : Option (Unit × gk_H) :=
f_M_array_b29 v0 v1 v2 (0 : Int32) h
def f_M_array (a0 : Option Nat) (a1 : Int32) (a2 : Int32) (h : gk_H) : Option (Unit × gk_H) :=
if a1 < (1 : Int32) then
(f_M_array_b28 a0 a1 a2 h)
else
(if a2 < (1 : Int32) then
(f_M_array_b28 a0 a1 a2 h)
else
(((gk_get h a0 7 3).bind gk_asI).bind fun x1 =>
if 0 < (lg_cmp ((Int32.toInt64 a1) * (Int32.toInt64 a2)) (Int32.toInt64 x1)) then
(f_M_array_b28 a0 a1 a2 h)
else
(f_M_array_b29 a0 a1 a2 (1 : Int32) h)))
def f_M_drop_b33   (h : gk_H) : Option (Unit × gk_H) :=
some ((), h)
def f_M_drop_b13  (v0 : Option Nat) (s0 : Option Nat) (s1 : Int32) (h : gk_H) : Option (Unit × gk_H) :=
(gk_set h s0 7 0 (.int s1)).bind fun h1 =>
((gk_get h1 v0 7 0).bind gk_asI).bind fun x1 =>
if x1 = 0 then
(((gk_get h1 v0 7 3).bind gk_asI).bind fun x2 =>
(gk_set h1 v0 7 3 (.int (x2 - (1 : Int32)))).bind fun h2 =>
f_M_drop_b33 h2)
else
(f_M_drop_b33 h1)
def f_M_drop (a0 : Option Nat) (h : gk_H) : Option (Unit × gk_H) :=
((gk_get h a0 7 3).bind gk_asI).bind fun x1 =>
if x1 = 0 then
(f_M_drop_b13 a0 a0 (1 : Int32) h)
else
(f_M_drop_b13 a0 a0 (0 : Int32) h)
def f_M_copyValue_b44  : Nat → Option Nat → Int32 → Int32 → Int32 → gk_H → Option (Unit × gk_H)
  | 0 => fun _ _ _ _ _ => none
  | fu + 1 => fun v0 v1 v2 v3 h =>
((gk_get h v0 7 5).bind gk_asR).bind fun x1 =>
((gk_ald h x1 1 v1).bind gk_asI).bind fun x2 =>
((gk_get h v0 7 6).bind gk_asR).bind fun x3 =>
((gk_ald h x3 1 v1).bind gk_asI).bind fun x4 =>
if (x2 * x4) ≤ v3 then
(some ((), h))
else
(gk_cv h v0 7 (f_M_copyCell v0 (((16 : Int32) * v1) + v3) (((16 : Int32) * v2) + v3) h) fun _ h1 =>
gk_let (v3 + (1 : Int32)) fun x5 =>
(f_M_copyValue_b44 fu) v0 v1 v2 x5 h1)
def f_M_copyValue (a0 : Option Nat) (a1 : Int32) (a2 : Int32) (h : gk_H) : Option (Unit × gk_H) :=
if a1 = a2 then
(some ((), h))
else
(((gk_get h a0 7 4).bind gk_asR).bind fun x1 =>
((gk_get h a0 7 4).bind gk_asR).bind fun x2 =>
((gk_ald h x2 1 a1).bind gk_asI).bind fun x3 =>
(gk_ast h x1 1 a2 (.int x3)).bind fun h1 =>
((gk_get h1 a0 7 5).bind gk_asR).bind fun x4 =>
((gk_get h1 a0 7 5).bind gk_asR).bind fun x5 =>
((gk_ald h1 x5 1 a1).bind gk_asI).bind fun x6 =>
(gk_ast h1 x4 1 a2 (.int x6)).bind fun h2 =>
((gk_get h2 a0 7 6).bind gk_asR).bind fun x7 =>
((gk_get h2 a0 7 6).bind gk_asR).bind fun x8 =>
((gk_ald h2 x8 1 a1).bind gk_asI).bind fun x9 =>
(gk_ast h2 x7 1 a2 (.int x9)).bind fun h3 =>
f_M_copyValue_b44 gk_F a0 a1 a2 (0 : Int32) h3)
def f_M_again_b59  (v0 : Option Nat) (v2 : Int32) (s0 : Option Nat) (s1 : Int32) (h : gk_H) : Option (Unit × gk_H) :=
(gk_set h s0 7 0 (.int s1)).bind fun h1 =>
((gk_get h1 v0 7 0).bind gk_asI).bind fun x1 =>
if x1 ≤ 0 then
(((gk_get h1 v0 7 3).bind gk_asI).bind fun x2 =>
gk_cv h1 v0 7 (f_M_copyValue v0 v2 x2 h1) fun _ h2 =>
((gk_get h2 v0 7 3).bind gk_asI).bind fun x3 =>
(gk_set h2 v0 7 3 (.int (x3 + (1 : Int32)))).bind fun h3 =>
some ((), h3))
else
(some ((), h1))
def f_M_again_b24  (v0 : Option Nat) (s0 : Int32) (h : gk_H) : Option (Unit × gk_H) :=
if 0 ≤ s0 then
(((gk_get h v0 7 5).bind gk_asR).bind fun x1 =>
((gk_ald h x1 1 s0).bind gk_asI).bind fun x2 =>
((gk_get h v0 7 6).bind gk_asR).bind fun x3 =>
((gk_ald h x3 1 s0).bind gk_asI).bind fun x4 =>
gk_cv h v0 7 (f_M_isFull v0 (x2 * x4) h) fun x5 h1 =>
if x5 = 0 then
(f_M_again_b59 v0 s0 v0 (0 : Int32) h1)
else
(f_M_again_b59 v0 s0 v0 (2 : Int32) h1))
else
(f_M_again_b59 v0 s0 v0 (1 : Int32) h)
def f_M_again_b12  (v0 : Option Nat) (h : gk_H) : Option (Unit × gk_H) :=
f_M_again_b24 v0 (-1 : Int32) h
def f_M_again (a0 : Option Nat) (a1 : Int32) (h : gk_H) : Option (Unit × gk_H) :=
if a1 < 0 then
(f_M_again_b12 a0 h)
else
(((gk_get h a0 7 3).bind gk_asI).bind fun x1 =>
if a1 < x1 then
(((gk_get h a0 7 3).bind gk_asI).bind fun x2 =>
f_M_again_b24 a0 ((x2 - (1 : Int32)) - a1) h)
else
(f_M_again_b12 a0 h))
def f_M_size (a0 : Option Nat) (h : gk_H) : Option (Int32 × gk_H) :=
(gk_set h a0 7 0 (.int (0 : Int32))).bind fun h1 =>
((gk_get h1 a0 7 3).bind gk_asI).bind fun x1 =>
some (x1, h1)
def f_M_about_b99  (s0 : Int32) (h : gk_H) : Option (Int32 × gk_H) :=
some (s0, h)
def f_M_about_b41  (v0 : Option Nat) (v1 : Int32) (v2 : Int32) (s0 : Option Nat) (s1 : Int32) (h : gk_H) : Option (Int32 × gk_H) :=
(gk_set h s0 7 0 (.int s1)).bind fun h1 =>
((gk_get h1 v0 7 0).bind gk_asI).bind fun x1 =>
if x1 ≤ 0 then
(((gk_get h1 v0 7 3).bind gk_asI).bind fun x2 =>
gk_let ((x2 - (1 : Int32)) - v1) fun x3 =>
if v2 = 0 then
(((gk_get h1 v0 7 4).bind gk_asR).bind fun x4 =>
((gk_ald h1 x4 1 x3).bind gk_asI).bind fun x5 =>
f_M_about_b99 x5 h1)
else
(if v2 = (1 : Int32) then
(((gk_get h1 v0 7 5).bind gk_asR).bind fun x6 =>
((gk_ald h1 x6 1 x3).bind gk_asI).bind fun x7 =>
f_M_about_b99 x7 h1)
else
(((gk_get h1 v0 7 6).bind gk_asR).bind fun x8 =>
((gk_ald h1 x8 1 x3).bind gk_asI).bind fun x9 =>
f_M_about_b99 x9 h1)))
else
(some ((0 : Int32), h1))
def f_M_about_b36  (v0 : Option Nat) (v1 : Int32) (v2 : Int32) (s0 : Option Nat) (h : gk_H) : Option (Int32 × gk_H) :=
f_M_about_b41 v0 v1 v2 s0 (2 : Int32) h
def f_M_about_b17  (v0 : Option Nat) (v1 : Int32) (v2 : Int32) (s0 : Int32) (h : gk_H) : Option (Int32 × gk_H) :=
if s0 = 0 then
(if v2 < 0 then
(f_M_about_b36 v0 v1 v2 v0 h)
else
(if v2 ≤ (2 : Int32) then
(f_M_about_b41 v0 v1 v2 v0 (0 : Int32) h)
else
(f_M_about_b36 v0 v1 v2 v0 h)))
else
(f_M_about_b41 v0 v1 v2 v0 (1 : Int32) h)
def f_M_about_b12  (v0 : Option Nat) (v1 : Int32) (v2 : Int32) (h : gk_H) : Option (Int32 × gk_H) :=
f_M_about_b17 v0 v1 v2 (1 : Int32) h
def f_M_about (a0 : Option Nat) (a1 : Int32) (a2 : Int32) (h : gk_H) : Option (Int32 × gk_H) :=
if a1 < 0 then
(f_M_about_b12 a0 a1 a2 h)
else
(((gk_get h a0 7 3).bind gk_asI).bind fun x1 =>
if a1 < x1 then
(f_M_about_b17 a0 a1 a2 (0 : Int32) h)
else
(f_M_about_b12 a0 a1 a2 h))
def f_M_find_b12   (h : gk_H) : Option (Int32 × gk_H) :=
some ((-1 : Int32), h)
def f_M_find_b75  (s0 : Int32) (h : gk_H) : Option (Int32 × gk_H) :=
some (s0, h)
def f_M_find_b54   (h : gk_H) : Option (Int32 × gk_H) :=
f_M_find_b75 (-1 : Int32) h
def f_M_find (a0 : Option Nat) (a1 : Int32) (a2 : Int32) (a3 : Int32) (h : gk_H) : Option (Int32 × gk_H) :=
if a1 < 0 then
(f_M_find_b12 h)
else
(((gk_get h a0 7 3).bind gk_asI).bind fun x1 =>
if a1 < x1 then
(((gk_get h a0 7 3).bind gk_asI).bind fun x2 =>
gk_let ((x2 - (1 : Int32)) - a1) fun x3 =>
if a2 < 0 then
(f_M_find_b54 h)
else
(((gk_get h a0 7 5).bind gk_asR).bind fun x4 =>
((gk_ald h x4 1 x3).bind gk_asI).bind fun x5 =>
if x5 ≤ a2 then
(f_M_find_b54 h)
else
(if a3 < 0 then
(f_M_find_b54 h)
else
(((gk_get h a0 7 6).bind gk_asR).bind fun x6 =>
((gk_ald h x6 1 x3).bind gk_asI).bind fun x7 =>
if a3 < x7 then
(((gk_get h a0 7 6).bind gk_asR).bind fun x8 =>
((gk_ald h x8 1 x3).bind gk_asI).bind fun x9 =>
f_M_find_b75 ((((16 : Int32) * x3) + (a2 * x9)) + a3) h)
else
(f_M_find_b54 h)))))
else
(f_M_find_b12 h))
def f_M_cell_b106  (s0 : Int32) (h : gk_H) : Option (Int32 × gk_H) :=
some (s0, h)
def f_M_cell_b35  (v0 : Option Nat) (v4 : Int32) (v5 : Int32) (s0 : Option Nat) (s1 : Int32) (h : gk_H) : Option (Int32 × gk_H) :=
(gk_set h s0 7 0 (.int s1)).bind fun h1 =>
((gk_get h1 v0 7 0).bind gk_asI).bind fun x1 =>
if x1 ≤ 0 then
(if v4 = 0 then
(((gk_get h1 v0 7 7).bind gk_asR).bind fun x2 =>
((gk_ald h1 x2 1 v5).bind gk_asI).bind fun x3 =>
f_M_cell_b106 x3 h1)
else
(((gk_get h1 v0 7 7).bind gk_asR).bind fun x4 =>
((gk_ald h1 x4 1 v5).bind gk_asI).bind fun x5 =>
if x5 = (2 : Int32) then
(((gk_get h1 v0 7 9).bind gk_asR).bind fun x6 =>
((gk_ald h1 x6 1 v5).bind gk_asI).bind fun x7 =>
f_M_cell_b106 x7 h1)
else
(((gk_get h1 v0 7 7).bind gk_asR).bind fun x8 =>
((gk_ald h1 x8 1 v5).bind gk_asI).bind fun x9 =>
if x9 ≤ (2 : Int32) then
(f_M_cell_b106 (0 : Int32) h1)
else
(((gk_get h1 v0 7 8).bind gk_asR).bind fun x10 =>
((gk_ald h1 x10 6 v5).bind gk_asD).bind fun x11 =>
f_M_cell_b106 (FP.d2i x11) h1))))
else
(some ((0 : Int32), h1))
def f_M_cell_b30  (v0 : Option Nat) (v4 : Int32) (v5 : Int32) (s0 : Option Nat) (h : gk_H) : Option (Int32 × gk_H) :=
f_M_cell_b35 v0 v4 v5 s0 (2 : Int32) h
def f_M_cell (a0 : Option Nat) (a1 : Int32) (a2 : Int32) (a3 : Int32) (a4 : Int32) (h : gk_H) : Option (Int32 × gk_H) :=
gk_cv h a0 7 (f_M_find a0 a1 a2 a3 h) fun x1 h1 =>
if 0 ≤ x1 then
(if a4 < 0 then
(f_M_cell_b30 a0 a4 x1 a0 h1)
else
(if a4 ≤ (1 : Int32) then
(f_M_cell_b35 a0 a4 x1 a0 (0 : Int32) h1)
else
(f_M_cell_b30 a0 a4 x1 a0 h1)))
else
(f_M_cell_b35 a0 a4 x1 a0 (1 : Int32) h1)
def f_M_value_b52  (s0 : UInt64) (h : gk_H) : Option (UInt64 × gk_H) :=
some (s0, h)
def f_M_value_b41   (h : gk_H) : Option (UInt64 × gk_H) :=
f_M_value_b52 (0x0000000000000000) h
def f_M_value_b20  (v0 : Option Nat) (v4 : Int32) (s0 : Option Nat) (s1 : Int32) (h : gk_H) : Option (UInt64 × gk_H) :=
(gk_set h s0 7 0 (.int s1)).bind fun h1 =>
((gk_get h1 v0 7 0).bind gk_asI).bind fun x1 =>
if 0 < x1 then
(f_M_value_b41 h1)
else
(((gk_get h1 v0 7 7).bind gk_asR).bind fun x2 =>
((gk_ald h1 x2 1 v4).bind gk_asI).bind fun x3 =>
if x3 = (1 : Int32) then
(((gk_get h1 v0 7 8).bind gk_asR).bind fun x4 =>
((gk_ald h1 x4 6 v4).bind gk_asD).bind fun x5 =>
f_M_value_b52 x5 h1)
else
(f_M_value_b41 h1))
def f_M_value (a0 : Option Nat) (a1 : Int32) (a2 : Int32) (a3 : Int32) (h : gk_H) : Option (UInt64 × gk_H) :=
gk_cv h a0 7 (f_M_find a0 a1 a2 a3 h) fun x1 h1 =>
if 0 ≤ x1 then
(f_M_value_b20 a0 x1 a0 (0 : Int32) h1)
else
(f_M_value_b20 a0 x1 a0 (1 : Int32) h1)
def f_M_letter_b78  (s0 : Int32) (h : gk_H) : Option (Int32 × gk_H) :=
some (s0, h)
def f_M_letter_b60   (h : gk_H) : Option (Int32 × gk_H) :=
f_M_letter_b78 (-1 : Int32) h
def f_M_letter_b20  (v0 : Option Nat) (v4 : Int32) (v5 : Int32) (s0 : Option Nat) (s1 : Int32) (h : gk_H) : Option (Int32 × gk_H) :=
(gk_set h s0 7 0 (.int s1)).bind fun h1 =>
((gk_get h1 v0 7 0).bind gk_asI).bind fun x1 =>
if x1 ≤ 0 then
(((gk_get h1 v0 7 7).bind gk_asR).bind fun x2 =>
((gk_ald h1 x2 1 v5).bind gk_asI).bind fun x3 =>
if x3 = (2 : Int32) then
(if v4 < 0 then
(f_M_letter_b60 h1)
else
(((gk_get h1 v0 7 9).bind gk_asR).bind fun x4 =>
((gk_ald h1 x4 1 v5).bind gk_asI).bind fun x5 =>
if v4 < x5 then
(((gk_get h1 v0 7 10).bind gk_asR).bind fun x6 =>
((gk_ald h1 x6 3 (((256 : Int32) * v5) + v4)).bind gk_asI).bind fun x7 =>
f_M_letter_b78 x7 h1)
else
(f_M_letter_b60 h1)))
else
(f_M_letter_b60 h1))
else
(some ((0 : Int32), h1))
def f_M_letter (a0 : Option Nat) (a1 : Int32) (a2 : Int32) (a3 : Int32) (a4 : Int32) (h : gk_H) : Option (Int32 × gk_H) :=
gk_cv h a0 7 (f_M_find a0 a1 a2 a3 h) fun x1 h1 =>
if 0 ≤ x1 then
(f_M_letter_b20 a0 a4 x1 a0 (0 : Int32) h1)
else
(f_M_letter_b20 a0 a4 x1 a0 (1 : Int32) h1)
def f_M_fail_b16  (s0 : Option Nat) (s1 : Int32) (h : gk_H) : Option (Unit × gk_H) :=
(gk_set h s0 7 11 (.int s1)).bind fun h1 =>
some ((), h1)
def f_M_fail (a0 : Option Nat) (a1 : Int32) (h : gk_H) : Option (Unit × gk_H) :=
((gk_get h a0 7 11).bind gk_asI).bind fun x1 =>
if x1 = 0 then
(f_M_fail_b16 a0 a1 h)
else
(((gk_get h a0 7 11).bind gk_asI).bind fun x2 =>
f_M_fail_b16 a0 x2 h)
def f_M_single_b22  (v1 : Int32) (h : gk_H) : Option (Int32 × gk_H) :=
some (((16 : Int32) * v1), h)
def f_M_single (a0 : Option Nat) (a1 : Int32) (h : gk_H) : Option (Int32 × gk_H) :=
((gk_get h a0 7 5).bind gk_asR).bind fun x1 =>
((gk_ald h x1 1 a1).bind gk_asI).bind fun x2 =>
((gk_get h a0 7 6).bind gk_asR).bind fun x3 =>
((gk_ald h x3 1 a1).bind gk_asI).bind fun x4 =>
if (x2 * x4) = (1 : Int32) then
(f_M_single_b22 a1 h)
else
(gk_cv h a0 7 (f_M_fail a0 (3 : Int32) h) fun _ h1 =>
f_M_single_b22 a1 h1)
def f_M_wantAny_b46  (v2 : Int32) (h : gk_H) : Option (Int32 × gk_H) :=
some (v2, h)
def f_M_wantAny (a0 : Option Nat) (a1 : Int32) (h : gk_H) : Option (Int32 × gk_H) :=
((gk_get h a0 7 11).bind gk_asI).bind fun x1 =>
if x1 ≤ 0 then
(gk_cv h a0 7 (f_M_single a0 a1 h) fun x2 h1 =>
((gk_get h1 a0 7 11).bind gk_asI).bind fun x3 =>
if x3 = 0 then
(((gk_get h1 a0 7 7).bind gk_asR).bind fun x4 =>
((gk_ald h1 x4 1 x2).bind gk_asI).bind fun x5 =>
if x5 = (4 : Int32) then
(((gk_get h1 a0 7 8).bind gk_asR).bind fun x6 =>
((gk_ald h1 x6 6 x2).bind gk_asD).bind fun x7 =>
gk_cv h1 a0 7 (f_M_fail a0 (FP.d2i x7) h1) fun _ h2 =>
f_M_wantAny_b46 x2 h2)
else
(f_M_wantAny_b46 x2 h1))
else
(f_M_wantAny_b46 x2 h1))
else
(some (((16 : Int32) * a1), h))
def f_M_great_b20  (s0 : Int32) (h : gk_H) : Option (Int32 × gk_H) :=
some (s0, h)
def f_M_great_b19  (v0 : Int32) (h : gk_H) : Option (Int32 × gk_H) :=
f_M_great_b20 v0 h
def f_M_great (a0 : Int32) (h : gk_H) : Option (Int32 × gk_H) :=
if a0 < (97 : Int32) then
(f_M_great_b19 a0 h)
else
(if (122 : Int32) < a0 then
(f_M_great_b19 a0 h)
else
(f_M_great_b20 (a0 - (32 : Int32)) h))
def f_M_compareWords_b87  (s0 : Int32) (h : gk_H) : Option (Int32 × gk_H) :=
some (s0, h)
def f_M_compareWords_b66  (v3 : Int32) (v6 : Int32) (h : gk_H) : Option (Int32 × gk_H) :=
if v6 ≤ v3 then
(if v3 ≤ v6 then
(f_M_compareWords_b87 (0 : Int32) h)
else
(f_M_compareWords_b87 (1 : Int32) h))
else
(f_M_compareWords_b87 (-1 : Int32) h)
def f_M_compareWords_b59  (s0 : Int32) (h : gk_H) : Option (Int32 × gk_H) :=
some (s0, h)
def f_M_compareWords_b3  : Nat → Option Nat → Int32 → Int32 → Option Nat → Int32 → Int32 → Int32 → gk_H → Option (Int32 × gk_H)
  | 0 => fun _ _ _ _ _ _ _ _ => none
  | fu + 1 => fun v1 v2 v3 v4 v5 v6 v7 h =>
if v3 ≤ v7 then
(f_M_compareWords_b66 v3 v6 h)
else
(if v6 ≤ v7 then
(f_M_compareWords_b66 v3 v6 h)
else
(((gk_ald h v1 3 (v2 + v7)).bind gk_asI).bind fun x1 =>
gk_ca (f_M_great x1 h) fun x2 h1 =>
((gk_ald h1 v4 3 (v5 + v7)).bind gk_asI).bind fun x3 =>
gk_ca (f_M_great x3 h1) fun x4 h2 =>
if x2 = x4 then
(gk_let (v7 + (1 : Int32)) fun x5 =>
(f_M_compareWords_b3 fu) v1 v2 v3 v4 v5 v6 x5 h2)
else
(if x4 ≤ x2 then
(f_M_compareWords_b59 (1 : Int32) h2)
else
(f_M_compareWords_b59 (-1 : Int32) h2))))
def f_M_compareWords (a0 : Option Nat) (a1 : Option Nat) (a2 : Int32) (a3 : Int32) (a4 : Option Nat) (a5 : Int32) (a6 : Int32) (h : gk_H) : Option (Int32 × gk_H) :=
f_M_compareWords_b3 gk_F a1 a2 a3 a4 a5 a6 (0 : Int32) h
def f_M_compareNumbers_b21  (s0 : Int32) (h : gk_H) : Option (Int32 × gk_H) :=
some (s0, h)
def f_M_compareNumbers (a0 : UInt64) (a1 : UInt64) (h : gk_H) : Option (Int32 × gk_H) :=
if 0 ≤ (Op.cmpValue (FP.dcmp a0 a1) .g) then
(if (Op.cmpValue (FP.dcmp a0 a1) .l) ≤ 0 then
(f_M_compareNumbers_b21 (0 : Int32) h)
else
(f_M_compareNumbers_b21 (1 : Int32) h))
else
(f_M_compareNumbers_b21 (-1 : Int32) h)
def f_M_compareCells_b173  (s0 : UInt64) (s1 : UInt64) (h : gk_H) : Option (Int32 × gk_H) :=
gk_ca (f_M_compareNumbers s0 s1 h) fun x1 h1 =>
some (x1, h1)
def f_M_compareCells_b154  (v0 : Option Nat) (v2 : Int32) (s0 : UInt64) (h : gk_H) : Option (Int32 × gk_H) :=
((gk_get h v0 7 7).bind gk_asR).bind fun x1 =>
((gk_ald h x1 1 v2).bind gk_asI).bind fun x2 =>
if x2 = 0 then
(f_M_compareCells_b173 s0 (0x0000000000000000) h)
else
(((gk_get h v0 7 8).bind gk_asR).bind fun x3 =>
((gk_ald h x3 6 v2).bind gk_asD).bind fun x4 =>
f_M_compareCells_b173 s0 x4 h)
def f_M_compareCells_b131  (s0 : Option Nat) (s1 : Option Nat) (s2 : Int32) (s3 : Int32) (s4 : Option Nat) (s5 : Int32) (s6 : Int32) (h : gk_H) : Option (Int32 × gk_H) :=
gk_cv h s0 7 (f_M_compareWords s0 s1 s2 s3 s4 s5 s6 h) fun x1 h1 =>
some (x1, h1)
def f_M_compareCells_b103  (v0 : Option Nat) (v2 : Int32) (s0 : Option Nat) (s1 : Option Nat) (s2 : Int32) (s3 : Int32) (h : gk_H) : Option (Int32 × gk_H) :=
((gk_get h v0 7 10).bind gk_asR).bind fun x1 =>
((gk_get h v0 7 7).bind gk_asR).bind fun x2 =>
((gk_ald h x2 1 v2).bind gk_asI).bind fun x3 =>
if x3 = 0 then
(f_M_compareCells_b131 s0 s1 s2 s3 x1 ((256 : Int32) * v2) (0 : Int32) h)
else
(((gk_get h v0 7 9).bind gk_asR).bind fun x4 =>
((gk_ald h x4 1 v2).bind gk_asI).bind fun x5 =>
f_M_compareCells_b131 s0 s1 s2 s3 x1 ((256 : Int32) * v2) x5 h)
def f_M_compareCells_b68  (s0 : Int32) (h : gk_H) : Option (Int32 × gk_H) :=
some (s0, h)
def f_M_compareCells_b49  (v0 : Option Nat) (v1 : Int32) (v2 : Int32) (v3 : Int32) (s0 : Int32) (h : gk_H) : Option (Int32 × gk_H) :=
if v3 = s0 then
(if v3 = (2 : Int32) then
(((gk_get h v0 7 10).bind gk_asR).bind fun x1 =>
((gk_get h v0 7 7).bind gk_asR).bind fun x2 =>
((gk_ald h x2 1 v1).bind gk_asI).bind fun x3 =>
if x3 = 0 then
(f_M_compareCells_b103 v0 v2 v0 x1 ((256 : Int32) * v1) (0 : Int32) h)
else
(((gk_get h v0 7 9).bind gk_asR).bind fun x4 =>
((gk_ald h x4 1 v1).bind gk_asI).bind fun x5 =>
f_M_compareCells_b103 v0 v2 v0 x1 ((256 : Int32) * v1) x5 h))
else
(((gk_get h v0 7 7).bind gk_asR).bind fun x6 =>
((gk_ald h x6 1 v1).bind gk_asI).bind fun x7 =>
if x7 = 0 then
(f_M_compareCells_b154 v0 v2 (0x0000000000000000) h)
else
(((gk_get h v0 7 8).bind gk_asR).bind fun x8 =>
((gk_ald h x8 6 v1).bind gk_asD).bind fun x9 =>
f_M_compareCells_b154 v0 v2 x9 h)))
else
(if s0 ≤ v3 then
(f_M_compareCells_b68 (1 : Int32) h)
else
(f_M_compareCells_b68 (-1 : Int32) h))
def f_M_compareCells_b24  (v0 : Option Nat) (v1 : Int32) (v2 : Int32) (s0 : Int32) (h : gk_H) : Option (Int32 × gk_H) :=
((gk_get h v0 7 7).bind gk_asR).bind fun x1 =>
((gk_ald h x1 1 v2).bind gk_asI).bind fun x2 =>
if x2 = 0 then
(((gk_get h v0 7 7).bind gk_asR).bind fun x3 =>
((gk_ald h x3 1 v1).bind gk_asI).bind fun x4 =>
f_M_compareCells_b49 v0 v1 v2 s0 x4 h)
else
(((gk_get h v0 7 7).bind gk_asR).bind fun x5 =>
((gk_ald h x5 1 v2).bind gk_asI).bind fun x6 =>
f_M_compareCells_b49 v0 v1 v2 s0 x6 h)
def f_M_compareCells (a0 : Option Nat) (a1 : Int32) (a2 : Int32) (h : gk_H) : Option (Int32 × gk_H) :=
((gk_get h a0 7 7).bind gk_asR).bind fun x1 =>
((gk_ald h x1 1 a1).bind gk_asI).bind fun x2 =>
if x2 = 0 then
(((gk_get h a0 7 7).bind gk_asR).bind fun x3 =>
((gk_ald h x3 1 a2).bind gk_asI).bind fun x4 =>
f_M_compareCells_b24 a0 a1 a2 x4 h)
else
(((gk_get h a0 7 7).bind gk_asR).bind fun x5 =>
((gk_ald h x5 1 a1).bind gk_asI).bind fun x6 =>
f_M_compareCells_b24 a0 a1 a2 x6 h)
def f_M_stands_b93  (s0 : Int32) (h : gk_H) : Option (Int32 × gk_H) :=
if narrow .boolean (.int s0) = .int s0 then some (s0, h) else none
def f_M_stands (a0 : Int32) (a1 : Int32) (h : gk_H) : Option (Int32 × gk_H) :=
if a0 = 0 then
(if a1 = 0 then
(f_M_stands_b93 (1 : Int32) h)
else
(f_M_stands_b93 (0 : Int32) h))
else
(if a0 = (1 : Int32) then
(if a1 = 0 then
(f_M_stands_b93 (0 : Int32) h)
else
(f_M_stands_b93 (1 : Int32) h))
else
(if a0 = (2 : Int32) then
(if 0 ≤ a1 then
(f_M_stands_b93 (0 : Int32) h)
else
(f_M_stands_b93 (1 : Int32) h))
else
(if a0 = (3 : Int32) then
(if a1 ≤ 0 then
(f_M_stands_b93 (0 : Int32) h)
else
(f_M_stands_b93 (1 : Int32) h))
else
(if a0 = (4 : Int32) then
(if 0 < a1 then
(f_M_stands_b93 (0 : Int32) h)
else
(f_M_stands_b93 (1 : Int32) h))
else
(if a1 < 0 then
(f_M_stands_b93 (0 : Int32) h)
else
(f_M_stands_b93 (1 : Int32) h))))))
def f_M_answerTruth_b13  (s0 : Option Nat) (s1 : Int32) (s2 : Int32) (s3 : UInt64) (h : gk_H) : Option (Unit × gk_H) :=
gk_cv h s0 7 (f_M_setSingle s0 s1 s2 s3 h) fun _ h1 =>
some ((), h1)
def f_M_answerTruth (a0 : Option Nat) (a1 : Int32) (h : gk_H) : Option (Unit × gk_H) :=
if a1 = 0 then
(f_M_answerTruth_b13 a0 (16 : Int32) (3 : Int32) (0x0000000000000000) h)
else
(f_M_answerTruth_b13 a0 (16 : Int32) (3 : Int32) (0x3ff0000000000000) h)
def f_M_putLetter (a0 : Option Nat) (a1 : Int32) (a2 : Int32) (h : gk_H) : Option (Unit × gk_H) :=
((gk_get h a0 7 15).bind gk_asR).bind fun x1 =>
((gk_get h a0 7 14).bind gk_asR).bind fun x2 =>
((gk_ald h x2 1 a1).bind gk_asI).bind fun x3 =>
(gk_ast h x1 3 (((256 : Int32) * a1) + x3) (.int (Int8.toInt32 (Int32.toInt8 a2)))).bind fun h1 =>
((gk_get h1 a0 7 14).bind gk_asR).bind fun x4 =>
((gk_ald h1 x4 1 a1).bind gk_asI).bind fun x5 =>
(gk_ast h1 x4 1 a1 (.int (x5 + (1 : Int32)))).bind fun h2 =>
some ((), h2)
def f_M_digits_b49  : Nat → Option Nat → Int32 → Int64 → Int64 → gk_H → Option (Unit × gk_H)
  | 0 => fun _ _ _ _ _ => none
  | fu + 1 => fun v0 v1 v2 v5 h =>
if (lg_cmp v5 (0 : Int64)) ≤ 0 then
(some ((), h))
else
(if v5 = 0 then none else
gk_cv h v0 7 (f_M_putLetter v0 v1 (Int64.toInt32 ((48 : Int64) + ((v2 / v5) - (v2 / v5) / (10 : Int64) * (10 : Int64)))) h) fun _ h1 =>
gk_let (v5 / (10 : Int64)) fun x1 =>
(f_M_digits_b49 fu) v0 v1 v2 x1 h1)
def f_M_digits_b27  : Nat → Option Nat → Int32 → Int64 → Int64 → gk_H → Option (Unit × gk_H)
  | 0 => fun _ _ _ _ _ => none
  | fu + 1 => fun v0 v1 v2 v5 h =>
if 0 < (lg_cmp v5 (v2 / (10 : Int64))) then
(f_M_digits_b49 gk_F v0 v1 v2 v5 h)
else
(gk_let (v5 * (10 : Int64)) fun x1 =>
(f_M_digits_b27 fu) v0 v1 v2 x1 h)
def f_M_digits_b6  : Nat → Option Nat → Int32 → Int64 → Int32 → Int64 → Int32 → gk_H → Option (Unit × gk_H)
  | 0 => fun _ _ _ _ _ _ _ => none
  | fu + 1 => fun v0 v1 v2 v4 v5 v7 h =>
if v4 ≤ v7 then
(f_M_digits_b27 gk_F v0 v1 v2 v5 h)
else
(gk_let (v5 * (10 : Int64)) fun x1 =>
gk_let (v7 + (1 : Int32)) fun x2 =>
(f_M_digits_b6 fu) v0 v1 v2 v4 x1 x2 h)
def f_M_digits (a0 : Option Nat) (a1 : Int32) (a2 : Int64) (a3 : Int32) (h : gk_H) : Option (Unit × gk_H) :=
f_M_digits_b6 gk_F a0 a1 a2 a3 (1 : Int64) (1 : Int32) h
def f_M_write_b192   (h : gk_H) : Option (Unit × gk_H) :=
some ((), h)
def f_M_write_b176   (h : gk_H) : Option (Unit × gk_H) :=
f_M_write_b192 h
def f_M_write_b139  : Nat → Option Nat → Int32 → gk_H → Option (Unit × gk_H)
  | 0 => fun _ _ _ => none
  | fu + 1 => fun v0 v1 h =>
((gk_get h v0 7 15).bind gk_asR).bind fun x1 =>
((gk_get h v0 7 14).bind gk_asR).bind fun x2 =>
((gk_ald h x2 1 v1).bind gk_asI).bind fun x3 =>
((gk_ald h x1 3 ((((256 : Int32) * v1) + x3) - (1 : Int32))).bind gk_asI).bind fun x4 =>
if x4 = (48 : Int32) then
(((gk_get h v0 7 14).bind gk_asR).bind fun x5 =>
((gk_ald h x5 1 v1).bind gk_asI).bind fun x6 =>
(gk_ast h x5 1 v1 (.int (x6 - (1 : Int32)))).bind fun h1 =>
(f_M_write_b139 fu) v0 v1 h1)
else
(f_M_write_b176 h)
def f_M_write_b49  (v0 : Option Nat) (v1 : Int32) (v4 : UInt64) (h : gk_H) : Option (Unit × gk_H) :=
gk_let (FP.d2l v4) fun x1 =>
if (Op.cmpValue (FP.dcmp (FP.l2d x1) v4) .l) = 0 then
(gk_cv h v0 7 (f_M_digits v0 v1 x1 (1 : Int32) h) fun _ h1 =>
f_M_write_b192 h1)
else
(if 0 ≤ (Op.cmpValue (FP.dcmp v4 (0x412e848000000000)) .g) then
(gk_dop (FP.dadd v4 (0x3fe0000000000000)) fun x2 =>
gk_cv h v0 7 (f_M_digits v0 v1 (FP.d2l x2) (1 : Int32) h) fun _ h2 =>
f_M_write_b192 h2)
else
(gk_dop (FP.dmul v4 (0x41cdcd6500000000)) fun x3 =>
gk_dop (FP.dadd x3 (0x3fe0000000000000)) fun x4 =>
gk_let (FP.d2l x4) fun x5 =>
gk_cv h v0 7 (f_M_digits v0 v1 (x5 / (1000000000 : Int64)) (1 : Int32) h) fun _ h3 =>
gk_let (x5 - x5 / (1000000000 : Int64) * (1000000000 : Int64)) fun x6 =>
if (lg_cmp x6 (0 : Int64)) ≤ 0 then
(f_M_write_b176 h3)
else
(gk_cv h3 v0 7 (f_M_putLetter v0 v1 (46 : Int32) h3) fun _ h4 =>
gk_cv h4 v0 7 (f_M_digits v0 v1 x6 (9 : Int32) h4) fun _ h5 =>
f_M_write_b139 gk_F v0 v1 h5)))
def f_M_write_b12  (v0 : Option Nat) (v1 : Int32) (v2 : UInt64) (s0 : UInt64) (h : gk_H) : Option (Unit × gk_H) :=
((gk_get h v0 7 14).bind gk_asR).bind fun x1 =>
(gk_ast h x1 1 v1 (.int (0 : Int32))).bind fun h1 =>
if (Op.cmpValue (FP.dcmp s0 (0x430c6bf526340000)) .g) < 0 then
(if 0 ≤ (Op.cmpValue (FP.dcmp v2 (0x0000000000000000)) .g) then
(f_M_write_b49 v0 v1 s0 h1)
else
(gk_cv h1 v0 7 (f_M_putLetter v0 v1 (45 : Int32) h1) fun _ h2 =>
f_M_write_b49 v0 v1 s0 h2))
else
(gk_cv h1 v0 7 (f_M_fail v0 (3 : Int32) h1) fun _ h3 =>
some ((), h3))
def f_M_write (a0 : Option Nat) (a1 : Int32) (a2 : UInt64) (h : gk_H) : Option (Unit × gk_H) :=
if 0 ≤ (Op.cmpValue (FP.dcmp a2 (0x0000000000000000)) .g) then
(f_M_write_b12 a0 a1 a2 a2 h)
else
(f_M_write_b12 a0 a1 a2 (FP.dneg a2) h)
def f_M_truthLetter_b14  (v0 : Int32) (v1 : Int32) (s0 : Int64) (h : gk_H) : Option (Int32 × gk_H) :=
some ((Int64.toInt32 ((s0 >>> (Int32.toInt64 ((8 : Int32) * ((v0 - (1 : Int32)) - v1)) &&& 63)) &&& (255 : Int64))), h)
def f_M_truthLetter (a0 : Int32) (a1 : Int32) (h : gk_H) : Option (Int32 × gk_H) :=
if a0 = (4 : Int32) then
(f_M_truthLetter_b14 a0 a1 (1414681925 : Int64) h)
else
(f_M_truthLetter_b14 a0 a1 (301743231813 : Int64) h)
def f_M_wantText_b195   (h : gk_H) : Option (Unit × gk_H) :=
some ((), h)
def f_M_wantText_b170  : Nat → Option Nat → Int32 → Int32 → Int32 → gk_H → Option (Unit × gk_H)
  | 0 => fun _ _ _ _ _ => none
  | fu + 1 => fun v0 v2 v4 v5 h =>
if v4 ≤ v5 then
(f_M_wantText_b195 h)
else
(gk_ca (f_M_truthLetter v4 v5 h) fun x1 h1 =>
gk_cv h1 v0 7 (f_M_putLetter v0 v2 x1 h1) fun _ h2 =>
gk_let (v5 + (1 : Int32)) fun x2 =>
(f_M_wantText_b170 fu) v0 v2 v4 x2 h2)
def f_M_wantText_b165  (v0 : Option Nat) (v2 : Int32) (s0 : Int32) (h : gk_H) : Option (Unit × gk_H) :=
f_M_wantText_b170 gk_F v0 v2 s0 (0 : Int32) h
def f_M_wantText_b139  (v0 : Option Nat) (v2 : Int32) (v3 : Int32) (h : gk_H) : Option (Unit × gk_H) :=
((gk_get h v0 7 7).bind gk_asR).bind fun x1 =>
((gk_ald h x1 1 v3).bind gk_asI).bind fun x2 =>
if x2 = (3 : Int32) then
(((gk_get h v0 7 8).bind gk_asR).bind fun x3 =>
((gk_ald h x3 6 v3).bind gk_asD).bind fun x4 =>
if (Op.cmpValue (FP.dcmp x4 (0x3ff0000000000000)) .l) = 0 then
(f_M_wantText_b165 v0 v2 (4 : Int32) h)
else
(f_M_wantText_b165 v0 v2 (5 : Int32) h))
else
(f_M_wantText_b195 h)
def f_M_wantText_b96  : Nat → Option Nat → Int32 → Int32 → Int32 → gk_H → Option (Unit × gk_H)
  | 0 => fun _ _ _ _ _ => none
  | fu + 1 => fun v0 v2 v3 v4 h =>
((gk_get h v0 7 9).bind gk_asR).bind fun x1 =>
((gk_ald h x1 1 v3).bind gk_asI).bind fun x2 =>
if x2 ≤ v4 then
(f_M_wantText_b139 v0 v2 v3 h)
else
(((gk_get h v0 7 15).bind gk_asR).bind fun x3 =>
((gk_get h v0 7 10).bind gk_asR).bind fun x4 =>
((gk_ald h x4 3 (((256 : Int32) * v3) + v4)).bind gk_asI).bind fun x5 =>
(gk_ast h x3 3 (((256 : Int32) * v2) + v4) (.int x5)).bind fun h1 =>
gk_let (v4 + (1 : Int32)) fun x6 =>
(f_M_wantText_b96 fu) v0 v2 v3 x6 h1)
def f_M_wantText_b71  (v0 : Option Nat) (v2 : Int32) (v3 : Int32) (h : gk_H) : Option (Unit × gk_H) :=
((gk_get h v0 7 7).bind gk_asR).bind fun x1 =>
((gk_ald h x1 1 v3).bind gk_asI).bind fun x2 =>
if x2 = (2 : Int32) then
(((gk_get h v0 7 14).bind gk_asR).bind fun x3 =>
((gk_get h v0 7 9).bind gk_asR).bind fun x4 =>
((gk_ald h x4 1 v3).bind gk_asI).bind fun x5 =>
(gk_ast h x3 1 v2 (.int x5)).bind fun h1 =>
f_M_wantText_b96 gk_F v0 v2 v3 (0 : Int32) h1)
else
(f_M_wantText_b139 v0 v2 v3 h)
def f_M_wantText_b50  (v0 : Option Nat) (v2 : Int32) (v3 : Int32) (h : gk_H) : Option (Unit × gk_H) :=
((gk_get h v0 7 7).bind gk_asR).bind fun x1 =>
((gk_ald h x1 1 v3).bind gk_asI).bind fun x2 =>
if x2 = (1 : Int32) then
(((gk_get h v0 7 8).bind gk_asR).bind fun x3 =>
((gk_ald h x3 6 v3).bind gk_asD).bind fun x4 =>
gk_cv h v0 7 (f_M_write v0 v2 x4 h) fun _ h1 =>
f_M_wantText_b71 v0 v2 v3 h1)
else
(f_M_wantText_b71 v0 v2 v3 h)
def f_M_wantText (a0 : Option Nat) (a1 : Int32) (a2 : Int32) (h : gk_H) : Option (Unit × gk_H) :=
((gk_get h a0 7 14).bind gk_asR).bind fun x1 =>
(gk_ast h x1 1 a2 (.int (0 : Int32))).bind fun h1 =>
((gk_get h1 a0 7 11).bind gk_asI).bind fun x2 =>
if x2 ≤ 0 then
(gk_cv h1 a0 7 (f_M_single a0 a1 h1) fun x3 h2 =>
((gk_get h2 a0 7 11).bind gk_asI).bind fun x4 =>
if x4 ≤ 0 then
(((gk_get h2 a0 7 7).bind gk_asR).bind fun x5 =>
((gk_ald h2 x5 1 x3).bind gk_asI).bind fun x6 =>
if x6 = (4 : Int32) then
(((gk_get h2 a0 7 8).bind gk_asR).bind fun x7 =>
((gk_ald h2 x7 6 x3).bind gk_asD).bind fun x8 =>
gk_cv h2 a0 7 (f_M_fail a0 (FP.d2i x8) h2) fun _ h3 =>
f_M_wantText_b50 a0 a2 x3 h3)
else
(f_M_wantText_b50 a0 a2 x3 h2))
else
(some ((), h2)))
else
(some ((), h1))
def f_M_add (a0 : Option Nat) (a1 : Int32) (h : gk_H) : Option (Unit × gk_H) :=
((gk_get h a0 7 9).bind gk_asR).bind fun x1 =>
((gk_ald h x1 1 (256 : Int32)).bind gk_asI).bind fun x2 =>
if x2 = (255 : Int32) then
(gk_cv h a0 7 (f_M_fail a0 (3 : Int32) h) fun _ h1 =>
some ((), h1))
else
(((gk_get h a0 7 10).bind gk_asR).bind fun x3 =>
(gk_ast h x3 3 ((65536 : Int32) + x2) (.int (Int8.toInt32 (Int32.toInt8 a1)))).bind fun h2 =>
((gk_get h2 a0 7 9).bind gk_asR).bind fun x4 =>
(gk_ast h2 x4 1 (256 : Int32) (.int (x2 + (1 : Int32)))).bind fun h3 =>
some ((), h3))
def f_M_join_b69 (b61 : Option Nat → Int32 → Int32 → gk_H → Option (Unit × gk_H)) : Nat → Option Nat → Int32 → Int32 → Int32 → gk_H → Option (Unit × gk_H)
  | 0 => fun _ _ _ _ _ => none
  | fu + 1 => fun v0 v1 v3 v4 h =>
((gk_get h v0 7 14).bind gk_asR).bind fun x1 =>
((gk_ald h x1 1 v3).bind gk_asI).bind fun x2 =>
if x2 ≤ v4 then
(gk_let (v3 + (1 : Int32)) fun x3 =>
b61 v0 v1 x3 h)
else
(((gk_get h v0 7 15).bind gk_asR).bind fun x4 =>
((gk_ald h x4 3 (((256 : Int32) * v3) + v4)).bind gk_asI).bind fun x5 =>
gk_cv h v0 7 (f_M_add v0 x5 h) fun _ h1 =>
gk_let (v4 + (1 : Int32)) fun x6 =>
(f_M_join_b69 b61 fu) v0 v1 v3 x6 h1)
def f_M_join_b61  : Nat → Option Nat → Int32 → Int32 → gk_H → Option (Unit × gk_H)
  | 0 => fun _ _ _ _ => none
  | fu + 1 => fun v0 v1 v3 h =>
if v1 ≤ v3 then
(some ((), h))
else
(f_M_join_b69 (f_M_join_b61 fu) gk_F v0 v1 v3 (0 : Int32) h)
def f_M_join_b43  (v0 : Option Nat) (v1 : Int32) (h : gk_H) : Option (Unit × gk_H) :=
((gk_get h v0 7 11).bind gk_asI).bind fun x1 =>
if x1 ≤ 0 then
(gk_cv h v0 7 (f_M_setSingle v0 (16 : Int32) (2 : Int32) (0x0000000000000000) h) fun _ h1 =>
f_M_join_b61 gk_F v0 v1 (0 : Int32) h1)
else
(some ((), h))
def f_M_join_b4  : Nat → Option Nat → Int32 → Int32 → Int32 → gk_H → Option (Unit × gk_H)
  | 0 => fun _ _ _ _ _ => none
  | fu + 1 => fun v0 v1 v2 v3 h =>
if v1 ≤ v3 then
(((gk_get h v0 7 11).bind gk_asI).bind fun x1 =>
if x1 = 0 then
(if v2 ≤ (255 : Int32) then
(f_M_join_b43 v0 v1 h)
else
(gk_cv h v0 7 (f_M_fail v0 (3 : Int32) h) fun _ h1 =>
f_M_join_b43 v0 v1 h1))
else
(f_M_join_b43 v0 v1 h))
else
(((gk_get h v0 7 14).bind gk_asR).bind fun x2 =>
((gk_ald h x2 1 v3).bind gk_asI).bind fun x3 =>
gk_let (v2 + x3) fun x4 =>
gk_let (v3 + (1 : Int32)) fun x5 =>
(f_M_join_b4 fu) v0 v1 x4 x5 h)
def f_M_join (a0 : Option Nat) (a1 : Int32) (h : gk_H) : Option (Unit × gk_H) :=
f_M_join_b4 gk_F a0 a1 (0 : Int32) (0 : Int32) h
def f_M_isDigit_b17  (s0 : Int32) (h : gk_H) : Option (Int32 × gk_H) :=
if narrow .boolean (.int s0) = .int s0 then some (s0, h) else none
def f_M_isDigit_b16   (h : gk_H) : Option (Int32 × gk_H) :=
f_M_isDigit_b17 (0 : Int32) h
def f_M_isDigit (a0 : Int32) (h : gk_H) : Option (Int32 × gk_H) :=
if a0 < (48 : Int32) then
(f_M_isDigit_b16 h)
else
(if (57 : Int32) < a0 then
(f_M_isDigit_b16 h)
else
(f_M_isDigit_b17 (1 : Int32) h))
def f_M_tens_b4  : Nat → Int32 → UInt64 → Int32 → gk_H → Option (UInt64 × gk_H)
  | 0 => fun _ _ _ _ => none
  | fu + 1 => fun v0 v1 v3 h =>
if v0 ≤ v3 then
(some (v1, h))
else
(gk_dop (FP.dmul v1 (0x4024000000000000)) fun x1 =>
gk_let (v3 + (1 : Int32)) fun x2 =>
(f_M_tens_b4 fu) v0 x1 x2 h)
def f_M_tens (a0 : Int32) (h : gk_H) : Option (UInt64 × gk_H) :=
f_M_tens_b4 gk_F a0 (0x3ff0000000000000) (0 : Int32) h
def f_M_isNumeral_b253   (h : gk_H) : Option (Int32 × gk_H) :=
if narrow .boolean (.int (0 : Int32)) = .int (0 : Int32) then some ((0 : Int32), h) else none
def f_M_isNumeral_b303  (s0 : Option Nat) (s1 : UInt64) (h : gk_H) : Option (Int32 × gk_H) :=
(gk_set h s0 7 16 (.double s1)).bind fun h1 =>
if narrow .boolean (.int (1 : Int32)) = .int (1 : Int32) then some ((1 : Int32), h1) else none
def f_M_isNumeral_b288  (v0 : Option Nat) (v6 : Int32) (v12 : UInt64) (h : gk_H) : Option (Int32 × gk_H) :=
if v6 = 0 then
(f_M_isNumeral_b303 v0 v12 h)
else
(gk_dop (FP.dsub (0x0000000000000000) v12) fun x1 =>
f_M_isNumeral_b303 v0 x1 h)
def f_M_isNumeral_b275  (v0 : Option Nat) (v6 : Int32) (v7 : Int32) (v12 : UInt64) (h : gk_H) : Option (Int32 × gk_H) :=
if v7 = 0 then
(f_M_isNumeral_b288 v0 v6 v12 h)
else
(gk_dop (FP.ddiv v12 (0x4059000000000000)) fun x1 =>
f_M_isNumeral_b288 v0 v6 x1 h)
def f_M_isNumeral_b232   (h : gk_H) : Option (Int32 × gk_H) :=
if narrow .boolean (.int (0 : Int32)) = .int (0 : Int32) then some ((0 : Int32), h) else none
def f_M_isNumeral_b234 (b143 : Option Nat → Option Nat → Int32 → Int32 → Int32 → Int32 → Int64 → Int32 → Int32 → gk_H → Option (Int32 × gk_H)) (v0 : Option Nat) (v1 : Option Nat) (v4 : Int32) (v5 : Int32) (v6 : Int32) (v7 : Int32) (v8 : Int64) (v10 : Int32) (v11 : Int32) (h : gk_H) : Option (Int32 × gk_H) :=
gk_let (v4 + (1 : Int32)) fun x1 =>
b143 v0 v1 x1 v5 v6 v7 v8 v10 v11 h
def f_M_isNumeral_b207 (b143 : Option Nat → Option Nat → Int32 → Int32 → Int32 → Int32 → Int64 → Int32 → Int32 → gk_H → Option (Int32 × gk_H)) (v0 : Option Nat) (v1 : Option Nat) (v4 : Int32) (v5 : Int32) (v6 : Int32) (v7 : Int32) (v8 : Int64) (v10 : Int32) (s0 : Int32) (h : gk_H) : Option (Int32 × gk_H) :=
f_M_isNumeral_b234 b143 v0 v1 v4 v5 v6 v7 v8 v10 s0 h
def f_M_isNumeral_b191 (b143 : Option Nat → Option Nat → Int32 → Int32 → Int32 → Int32 → Int64 → Int32 → Int32 → gk_H → Option (Int32 × gk_H)) (v0 : Option Nat) (v1 : Option Nat) (v4 : Int32) (v5 : Int32) (v6 : Int32) (v7 : Int32) (v10 : Int32) (v11 : Int32) (s0 : Int64) (h : gk_H) : Option (Int32 × gk_H) :=
if v11 < 0 then
(f_M_isNumeral_b207 b143 v0 v1 v4 v5 v6 v7 s0 v10 v11 h)
else
(f_M_isNumeral_b207 b143 v0 v1 v4 v5 v6 v7 s0 v10 (v11 + (1 : Int32)) h)
def f_M_isNumeral_b143  : Nat → Option Nat → Option Nat → Int32 → Int32 → Int32 → Int32 → Int64 → Int32 → Int32 → gk_H → Option (Int32 × gk_H)
  | 0 => fun _ _ _ _ _ _ _ _ _ _ => none
  | fu + 1 => fun v0 v1 v4 v5 v6 v7 v8 v10 v11 h =>
if v5 ≤ v4 then
(if v10 < (1 : Int32) then
(f_M_isNumeral_b253 h)
else
(if v10 ≤ (15 : Int32) then
(gk_let (FP.l2d v8) fun x1 =>
if v11 ≤ 0 then
(f_M_isNumeral_b275 v0 v6 v7 x1 h)
else
(gk_ca (f_M_tens v11 h) fun x2 h1 =>
gk_dop (FP.ddiv x1 x2) fun x3 =>
f_M_isNumeral_b275 v0 v6 v7 x3 h1))
else
(f_M_isNumeral_b253 h)))
else
(((gk_ald h v1 3 v4).bind gk_asI).bind fun x4 =>
gk_ca (f_M_isDigit x4 h) fun x5 h2 =>
if x5 = 0 then
(((gk_ald h2 v1 3 v4).bind gk_asI).bind fun x6 =>
if x6 = (46 : Int32) then
(if 0 ≤ v11 then
(f_M_isNumeral_b232 h2)
else
(f_M_isNumeral_b234 (f_M_isNumeral_b143 fu) v0 v1 v4 v5 v6 v7 v8 v10 (0 : Int32) h2))
else
(f_M_isNumeral_b232 h2))
else
(gk_let (v10 + (1 : Int32)) fun x7 =>
if (16 : Int32) ≤ x7 then
(f_M_isNumeral_b191 (f_M_isNumeral_b143 fu) v0 v1 v4 v5 v6 v7 x7 v11 v8 h2)
else
(((gk_ald h2 v1 3 v4).bind gk_asI).bind fun x8 =>
f_M_isNumeral_b191 (f_M_isNumeral_b143 fu) v0 v1 v4 v5 v6 v7 x7 v11 ((((10 : Int64) * v8) + (Int32.toInt64 x8)) - (48 : Int64)) h2)))
def f_M_isNumeral_b132  (v0 : Option Nat) (v1 : Option Nat) (v4 : Int32) (v6 : Int32) (v7 : Int32) (s0 : Int32) (h : gk_H) : Option (Int32 × gk_H) :=
f_M_isNumeral_b143 gk_F v0 v1 v4 s0 v6 v7 (0 : Int64) (0 : Int32) (-1 : Int32) h
def f_M_isNumeral_b116  (v0 : Option Nat) (v1 : Option Nat) (v4 : Int32) (v5 : Int32) (v6 : Int32) (s0 : Int32) (h : gk_H) : Option (Int32 × gk_H) :=
if s0 = 0 then
(f_M_isNumeral_b132 v0 v1 v4 v6 s0 v5 h)
else
(f_M_isNumeral_b132 v0 v1 v4 v6 s0 (v5 - (1 : Int32)) h)
def f_M_isNumeral_b115  (v0 : Option Nat) (v1 : Option Nat) (v4 : Int32) (v5 : Int32) (v6 : Int32) (h : gk_H) : Option (Int32 × gk_H) :=
f_M_isNumeral_b116 v0 v1 v4 v5 v6 (0 : Int32) h
def f_M_isNumeral_b91  (v0 : Option Nat) (v1 : Option Nat) (v5 : Int32) (v6 : Int32) (s0 : Int32) (h : gk_H) : Option (Int32 × gk_H) :=
if v5 ≤ s0 then
(f_M_isNumeral_b115 v0 v1 s0 v5 v6 h)
else
(((gk_ald h v1 3 (v5 - (1 : Int32))).bind gk_asI).bind fun x1 =>
if x1 = (37 : Int32) then
(f_M_isNumeral_b116 v0 v1 s0 v5 v6 (1 : Int32) h)
else
(f_M_isNumeral_b115 v0 v1 s0 v5 v6 h))
def f_M_isNumeral_b75  (v0 : Option Nat) (v1 : Option Nat) (v4 : Int32) (v5 : Int32) (s0 : Int32) (h : gk_H) : Option (Int32 × gk_H) :=
if s0 = 0 then
(f_M_isNumeral_b91 v0 v1 v5 s0 v4 h)
else
(f_M_isNumeral_b91 v0 v1 v5 s0 (v4 + (1 : Int32)) h)
def f_M_isNumeral_b74  (v0 : Option Nat) (v1 : Option Nat) (v4 : Int32) (v5 : Int32) (h : gk_H) : Option (Int32 × gk_H) :=
f_M_isNumeral_b75 v0 v1 v4 v5 (0 : Int32) h
def f_M_isNumeral_b54  (v0 : Option Nat) (v1 : Option Nat) (v4 : Int32) (v5 : Int32) (h : gk_H) : Option (Int32 × gk_H) :=
if v5 ≤ v4 then
(f_M_isNumeral_b74 v0 v1 v4 v5 h)
else
(((gk_ald h v1 3 v4).bind gk_asI).bind fun x1 =>
if x1 = (45 : Int32) then
(f_M_isNumeral_b75 v0 v1 v4 v5 (1 : Int32) h)
else
(f_M_isNumeral_b74 v0 v1 v4 v5 h))
def f_M_isNumeral_b30  : Nat → Option Nat → Option Nat → Int32 → Int32 → gk_H → Option (Int32 × gk_H)
  | 0 => fun _ _ _ _ _ => none
  | fu + 1 => fun v0 v1 v4 v5 h =>
if v5 ≤ v4 then
(f_M_isNumeral_b54 v0 v1 v4 v5 h)
else
(((gk_ald h v1 3 (v5 - (1 : Int32))).bind gk_asI).bind fun x1 =>
if x1 = (32 : Int32) then
(gk_let (v5 + (-1 : Int32)) fun x2 =>
(f_M_isNumeral_b30 fu) v0 v1 v4 x2 h)
else
(f_M_isNumeral_b54 v0 v1 v4 v5 h))
def f_M_isNumeral_b8  : Nat → Option Nat → Option Nat → Int32 → Int32 → gk_H → Option (Int32 × gk_H)
  | 0 => fun _ _ _ _ _ => none
  | fu + 1 => fun v0 v1 v4 v5 h =>
if v5 ≤ v4 then
(f_M_isNumeral_b30 gk_F v0 v1 v4 v5 h)
else
(((gk_ald h v1 3 v4).bind gk_asI).bind fun x1 =>
if x1 = (32 : Int32) then
(gk_let (v4 + (1 : Int32)) fun x2 =>
(f_M_isNumeral_b8 fu) v0 v1 x2 v5 h)
else
(f_M_isNumeral_b30 gk_F v0 v1 v4 v5 h))
def f_M_isNumeral (a0 : Option Nat) (a1 : Option Nat) (a2 : Int32) (a3 : Int32) (h : gk_H) : Option (Int32 × gk_H) :=
gk_let (a2 + a3) fun x1 =>
f_M_isNumeral_b8 gk_F a0 a1 a2 x1 h
def f_M_numberOf_b99  (s0 : UInt64) (h : gk_H) : Option (UInt64 × gk_H) :=
some (s0, h)
def f_M_numberOf_b52  (s0 : UInt64) (h : gk_H) : Option (UInt64 × gk_H) :=
some (s0, h)
def f_M_numberOf (a0 : Option Nat) (a1 : Int32) (h : gk_H) : Option (UInt64 × gk_H) :=
((gk_get h a0 7 7).bind gk_asR).bind fun x1 =>
((gk_ald h x1 1 a1).bind gk_asI).bind fun x2 =>
if x2 = (4 : Int32) then
(((gk_get h a0 7 8).bind gk_asR).bind fun x3 =>
((gk_ald h x3 6 a1).bind gk_asD).bind fun x4 =>
gk_cv h a0 7 (f_M_fail a0 (FP.d2i x4) h) fun _ h1 =>
some ((0x0000000000000000), h1))
else
(((gk_get h a0 7 7).bind gk_asR).bind fun x5 =>
((gk_ald h x5 1 a1).bind gk_asI).bind fun x6 =>
if x6 = (2 : Int32) then
(((gk_get h a0 7 10).bind gk_asR).bind fun x7 =>
((gk_get h a0 7 9).bind gk_asR).bind fun x8 =>
((gk_ald h x8 1 a1).bind gk_asI).bind fun x9 =>
gk_cv h a0 7 (f_M_isNumeral a0 x7 ((256 : Int32) * a1) x9 h) fun x10 h2 =>
if x10 = 0 then
(gk_cv h2 a0 7 (f_M_fail a0 (3 : Int32) h2) fun _ h3 =>
some ((0x0000000000000000), h3))
else
(((gk_get h2 a0 7 16).bind gk_asD).bind fun x11 =>
if (Op.cmpValue (FP.dcmp x11 (0x0000000000000000)) .l) = 0 then
(f_M_numberOf_b99 (0x0000000000000000) h2)
else
(((gk_get h2 a0 7 16).bind gk_asD).bind fun x12 =>
f_M_numberOf_b99 x12 h2)))
else
(((gk_get h a0 7 7).bind gk_asR).bind fun x13 =>
((gk_ald h x13 1 a1).bind gk_asI).bind fun x14 =>
if x14 = 0 then
(f_M_numberOf_b52 (0x0000000000000000) h)
else
(((gk_get h a0 7 8).bind gk_asR).bind fun x15 =>
((gk_ald h x15 6 a1).bind gk_asD).bind fun x16 =>
f_M_numberOf_b52 x16 h)))
def f_M_wantNumber_b31  (s0 : UInt64) (h : gk_H) : Option (UInt64 × gk_H) :=
some (s0, h)
def f_M_wantNumber (a0 : Option Nat) (a1 : Int32) (h : gk_H) : Option (UInt64 × gk_H) :=
((gk_get h a0 7 11).bind gk_asI).bind fun x1 =>
if x1 ≤ 0 then
(gk_cv h a0 7 (f_M_single a0 a1 h) fun x2 h1 =>
((gk_get h1 a0 7 11).bind gk_asI).bind fun x3 =>
if x3 ≤ 0 then
(gk_cv h1 a0 7 (f_M_numberOf a0 x2 h1) fun x4 h2 =>
f_M_wantNumber_b31 x4 h2)
else
(f_M_wantNumber_b31 (0x0000000000000000) h1))
else
(some ((0x0000000000000000), h))
def f_M_isEndless_b21  (s0 : Int32) (h : gk_H) : Option (Int32 × gk_H) :=
if narrow .boolean (.int s0) = .int s0 then some (s0, h) else none
def f_M_isEndless_b16   (h : gk_H) : Option (Int32 × gk_H) :=
f_M_isEndless_b21 (1 : Int32) h
def f_M_isEndless (a0 : UInt64) (h : gk_H) : Option (Int32 × gk_H) :=
if 0 < (Op.cmpValue (FP.dcmp a0 (0x7fefffffffffffff)) .l) then
(f_M_isEndless_b16 h)
else
(if 0 ≤ (Op.cmpValue (FP.dcmp a0 (0xffefffffffffffff)) .g) then
(f_M_isEndless_b21 (0 : Int32) h)
else
(f_M_isEndless_b16 h))
def f_M_step (a0 : Option Nat) (a1 : UInt64) (h : gk_H) : Option (UInt64 × gk_H) :=
gk_ca (f_M_isEndless a1 h) fun x1 h1 =>
if x1 = 0 then
(some (a1, h1))
else
(gk_cv h1 a0 7 (f_M_fail a0 (6 : Int32) h1) fun _ h2 =>
some ((0x0000000000000000), h2))
def f_M_divide (a0 : Option Nat) (a1 : UInt64) (a2 : UInt64) (h : gk_H) : Option (UInt64 × gk_H) :=
if (Op.cmpValue (FP.dcmp a2 (0x0000000000000000)) .l) = 0 then
(gk_cv h a0 7 (f_M_fail a0 (2 : Int32) h) fun _ h1 =>
some ((0x0000000000000000), h1))
else
(gk_dop (FP.ddiv a1 a2) fun x1 =>
gk_cv h a0 7 (f_M_step a0 x1 h) fun x2 h2 =>
some (x2, h2))
def f_M_isWhole_b29  (s0 : Int32) (h : gk_H) : Option (Int32 × gk_H) :=
if narrow .boolean (.int s0) = .int s0 then some (s0, h) else none
def f_M_isWhole_b24   (h : gk_H) : Option (Int32 × gk_H) :=
f_M_isWhole_b29 (1 : Int32) h
def f_M_isWhole (a0 : UInt64) (h : gk_H) : Option (Int32 × gk_H) :=
if 0 ≤ (Op.cmpValue (FP.dcmp a0 (0x4340000000000000)) .l) then
(f_M_isWhole_b24 h)
else
(if (Op.cmpValue (FP.dcmp a0 (0xc340000000000000)) .g) ≤ 0 then
(f_M_isWhole_b24 h)
else
(if (Op.cmpValue (FP.dcmp (FP.l2d (FP.d2l a0)) a0) .l) = 0 then
(f_M_isWhole_b24 h)
else
(f_M_isWhole_b29 (0 : Int32) h)))
def f_M_power_b207  (v7 : UInt64) (h : gk_H) : Option (UInt64 × gk_H) :=
some (v7, h)
def f_M_power_b168  (v0 : Option Nat) (v3 : UInt64) (v7 : UInt64) (h : gk_H) : Option (UInt64 × gk_H) :=
((gk_get h v0 7 11).bind gk_asI).bind fun x1 =>
if x1 = 0 then
(if 0 ≤ (Op.cmpValue (FP.dcmp v3 (0x0000000000000000)) .g) then
(f_M_power_b207 v7 h)
else
(if (Op.cmpValue (FP.dcmp v7 (0x0000000000000000)) .l) = 0 then
(gk_cv h v0 7 (f_M_fail v0 (6 : Int32) h) fun _ h1 =>
f_M_power_b207 v7 h1)
else
(gk_dop (FP.ddiv (0x3ff0000000000000) v7) fun x2 =>
gk_cv h v0 7 (f_M_step v0 x2 h) fun x3 h2 =>
f_M_power_b207 x3 h2)))
else
(f_M_power_b207 v7 h)
def f_M_power_b163 (b95 : Option Nat → UInt64 → Int32 → UInt64 → UInt64 → gk_H → Option (UInt64 × gk_H)) (v0 : Option Nat) (v3 : UInt64) (v6 : Int32) (v7 : UInt64) (s0 : UInt64) (h : gk_H) : Option (UInt64 × gk_H) :=
b95 v0 v3 v6 v7 s0 h
def f_M_power_b161 (b95 : Option Nat → UInt64 → Int32 → UInt64 → UInt64 → gk_H → Option (UInt64 × gk_H)) (v0 : Option Nat) (v3 : UInt64) (v6 : Int32) (v7 : UInt64) (v9 : UInt64) (h : gk_H) : Option (UInt64 × gk_H) :=
f_M_power_b163 b95 v0 v3 v6 v7 v9 h
def f_M_power_b129 (b95 : Option Nat → UInt64 → Int32 → UInt64 → UInt64 → gk_H → Option (UInt64 × gk_H)) (v0 : Option Nat) (v3 : UInt64) (v6 : Int32) (v9 : UInt64) (s0 : UInt64) (h : gk_H) : Option (UInt64 × gk_H) :=
gk_let (v6 / (2 : Int32)) fun x1 =>
if x1 ≤ 0 then
(f_M_power_b161 b95 v0 v3 x1 s0 v9 h)
else
(((gk_get h v0 7 11).bind gk_asI).bind fun x2 =>
if x2 = 0 then
(gk_dop (FP.dmul v9 v9) fun x3 =>
gk_cv h v0 7 (f_M_step v0 x3 h) fun x4 h1 =>
f_M_power_b163 b95 v0 v3 x1 s0 x4 h1)
else
(f_M_power_b161 b95 v0 v3 x1 s0 v9 h))
def f_M_power_b95  : Nat → Option Nat → UInt64 → Int32 → UInt64 → UInt64 → gk_H → Option (UInt64 × gk_H)
  | 0 => fun _ _ _ _ _ _ => none
  | fu + 1 => fun v0 v3 v6 v7 v9 h =>
if v6 ≤ 0 then
(f_M_power_b168 v0 v3 v7 h)
else
(((gk_get h v0 7 11).bind gk_asI).bind fun x1 =>
if x1 = 0 then
(if (v6 - v6 / (2 : Int32) * (2 : Int32)) = (1 : Int32) then
(gk_dop (FP.dmul v7 v9) fun x2 =>
gk_cv h v0 7 (f_M_step v0 x2 h) fun x3 h1 =>
f_M_power_b129 (f_M_power_b95 fu) v0 v3 v6 v9 x3 h1)
else
(f_M_power_b129 (f_M_power_b95 fu) v0 v3 v6 v9 v7 h))
else
(f_M_power_b168 v0 v3 v7 h))
def f_M_power_b86  (v0 : Option Nat) (v1 : UInt64) (v3 : UInt64) (s0 : UInt64) (h : gk_H) : Option (UInt64 × gk_H) :=
gk_let (FP.d2i s0) fun x1 =>
f_M_power_b95 gk_F v0 v3 x1 (0x3ff0000000000000) v1 h
def f_M_power_b74  (v0 : Option Nat) (v1 : UInt64) (v3 : UInt64) (h : gk_H) : Option (UInt64 × gk_H) :=
if 0 ≤ (Op.cmpValue (FP.dcmp v3 (0x0000000000000000)) .g) then
(f_M_power_b86 v0 v1 v3 v3 h)
else
(f_M_power_b86 v0 v1 v3 (FP.dneg v3) h)
def f_M_power_b40  (v0 : Option Nat) (v1 : UInt64) (v3 : UInt64) (s0 : Int32) (h : gk_H) : Option (UInt64 × gk_H) :=
if s0 = 0 then
(gk_cv h v0 7 (f_M_fail v0 (6 : Int32) h) fun _ h1 =>
some ((0x0000000000000000), h1))
else
(if (Op.cmpValue (FP.dcmp v1 (0x0000000000000000)) .l) = 0 then
(if 0 ≤ (Op.cmpValue (FP.dcmp v3 (0x0000000000000000)) .g) then
(f_M_power_b74 v0 v1 v3 h)
else
(gk_cv h v0 7 (f_M_fail v0 (2 : Int32) h) fun _ h2 =>
some ((0x0000000000000000), h2)))
else
(f_M_power_b74 v0 v1 v3 h))
def f_M_power_b39  (v0 : Option Nat) (v1 : UInt64) (v3 : UInt64) (h : gk_H) : Option (UInt64 × gk_H) :=
f_M_power_b40 v0 v1 v3 (0 : Int32) h
def f_M_power_b35  (v0 : Option Nat) (v1 : UInt64) (v3 : UInt64) (h : gk_H) : Option (UInt64 × gk_H) :=
f_M_power_b40 v0 v1 v3 (1 : Int32) h
def f_M_power (a0 : Option Nat) (a1 : UInt64) (a2 : UInt64) (h : gk_H) : Option (UInt64 × gk_H) :=
if (Op.cmpValue (FP.dcmp a2 (0xc08ff80000000000)) .l) < 0 then
(f_M_power_b39 a0 a1 a2 h)
else
(if 0 < (Op.cmpValue (FP.dcmp a2 (0x408ff80000000000)) .g) then
(f_M_power_b39 a0 a1 a2 h)
else
(gk_ca (f_M_isWhole a2 h) fun x1 h1 =>
if x1 = 0 then
(f_M_power_b39 a0 a1 a2 h1)
else
(if (Op.cmpValue (FP.dcmp a1 (0x0000000000000000)) .l) = 0 then
(if (Op.cmpValue (FP.dcmp a2 (0x0000000000000000)) .l) = 0 then
(f_M_power_b39 a0 a1 a2 h1)
else
(f_M_power_b35 a0 a1 a2 h1))
else
(f_M_power_b35 a0 a1 a2 h1))))
def f_M_reckon (a0 : Option Nat) (a1 : Int32) (a2 : UInt64) (a3 : UInt64) (h : gk_H) : Option (UInt64 × gk_H) :=
if a1 = (0 : Int32) then
(gk_dop (FP.dsub (0x0000000000000000) a2) fun x1 =>
some (x1, h))
else if a1 = (1 : Int32) then
(gk_dop (FP.ddiv a2 (0x4059000000000000)) fun x2 =>
some (x2, h))
else if a1 = (2 : Int32) then
(gk_cv h a0 7 (f_M_power a0 a2 a3 h) fun x3 h1 =>
some (x3, h1))
else if a1 = (3 : Int32) then
(gk_dop (FP.dmul a2 a3) fun x4 =>
gk_cv h a0 7 (f_M_step a0 x4 h) fun x5 h2 =>
some (x5, h2))
else if a1 = (4 : Int32) then
(gk_cv h a0 7 (f_M_divide a0 a2 a3 h) fun x6 h3 =>
some (x6, h3))
else if a1 = (5 : Int32) then
(gk_dop (FP.dadd a2 a3) fun x7 =>
gk_cv h a0 7 (f_M_step a0 x7 h) fun x8 h4 =>
some (x8, h4))
else 
(gk_dop (FP.dsub a2 a3) fun x9 =>
gk_cv h a0 7 (f_M_step a0 x9 h) fun x10 h5 =>
some (x10, h5))
def f_M_answerNumber (a0 : Option Nat) (a1 : UInt64) (h : gk_H) : Option (Unit × gk_H) :=
gk_cv h a0 7 (f_M_setSingle a0 (16 : Int32) (1 : Int32) a1 h) fun _ h1 =>
some ((), h1)
def f_M_finish_b19  (v0 : Option Nat) (v1 : Int32) (h : gk_H) : Option (Unit × gk_H) :=
((gk_get h v0 7 3).bind gk_asI).bind fun x1 =>
(gk_set h v0 7 3 (.int (x1 - v1))).bind fun h1 =>
((gk_get h1 v0 7 3).bind gk_asI).bind fun x2 =>
gk_cv h1 v0 7 (f_M_copyValue v0 (16 : Int32) x2 h1) fun _ h2 =>
((gk_get h2 v0 7 3).bind gk_asI).bind fun x3 =>
(gk_set h2 v0 7 3 (.int (x3 + (1 : Int32)))).bind fun h3 =>
some ((), h3)
def f_M_finish (a0 : Option Nat) (a1 : Int32) (h : gk_H) : Option (Unit × gk_H) :=
((gk_get h a0 7 11).bind gk_asI).bind fun x1 =>
if x1 ≤ 0 then
(f_M_finish_b19 a0 a1 h)
else
(((gk_get h a0 7 11).bind gk_asI).bind fun x2 =>
gk_cv h a0 7 (f_M_setSingle a0 (16 : Int32) (4 : Int32) (FP.i2d x2) h) fun _ h1 =>
f_M_finish_b19 a0 a1 h1)
def f_M_operate_b207  (v0 : Option Nat) (v2 : Int32) (h : gk_H) : Option (Unit × gk_H) :=
gk_cv h v0 7 (f_M_finish v0 v2 h) fun _ h1 =>
some ((), h1)
def f_M_operate_b185  (v0 : Option Nat) (v1 : Int32) (v2 : Int32) (v5 : UInt64) (s0 : UInt64) (h : gk_H) : Option (Unit × gk_H) :=
((gk_get h v0 7 11).bind gk_asI).bind fun x1 =>
if x1 = 0 then
(gk_cv h v0 7 (f_M_reckon v0 v1 v5 s0 h) fun x2 h1 =>
gk_cv h1 v0 7 (f_M_answerNumber v0 x2 h1) fun _ h2 =>
f_M_operate_b207 v0 v2 h2)
else
(f_M_operate_b207 v0 v2 h)
def f_M_operate_b133  (v0 : Option Nat) (v2 : Int32) (h : gk_H) : Option (Unit × gk_H) :=
f_M_operate_b207 v0 v2 h
def f_M_operate_b119  (v0 : Option Nat) (v2 : Int32) (v5 : Int32) (v6 : Int32) (s0 : Option Nat) (s1 : Int32) (h : gk_H) : Option (Unit × gk_H) :=
gk_cv h v0 7 (f_M_compareCells v0 v5 v6 h) fun x1 h1 =>
gk_ca (f_M_stands s1 x1 h1) fun x2 h2 =>
gk_cv h2 s0 7 (f_M_answerTruth s0 x2 h2) fun _ h3 =>
f_M_operate_b133 v0 v2 h3
def f_M_operate_b35  (v0 : Option Nat) (v1 : Int32) (v2 : Int32) (s0 : Option Nat) (s1 : Int32) (h : gk_H) : Option (Unit × gk_H) :=
(gk_set h s0 7 0 (.int s1)).bind fun h1 =>
((gk_get h1 v0 7 0).bind gk_asI).bind fun x1 =>
if x1 ≤ 0 then
((gk_set h1 v0 7 11 (.int (0 : Int32))).bind fun h2 =>
((gk_get h2 v0 7 3).bind gk_asI).bind fun x2 =>
gk_let (x2 - v2) fun x3 =>
((gk_get h2 v0 7 3).bind gk_asI).bind fun x4 =>
gk_let (x4 - (1 : Int32)) fun x5 =>
if v1 ≤ (7 : Int32) then
(if v1 = (7 : Int32) then
(gk_cv h2 v0 7 (f_M_wantText v0 x3 (0 : Int32) h2) fun _ h3 =>
gk_cv h3 v0 7 (f_M_wantText v0 x5 (1 : Int32) h3) fun _ h4 =>
gk_cv h4 v0 7 (f_M_join v0 (2 : Int32) h4) fun _ h5 =>
f_M_operate_b207 v0 v2 h5)
else
(gk_cv h2 v0 7 (f_M_wantNumber v0 x3 h2) fun x6 h6 =>
if v2 = (2 : Int32) then
(gk_cv h6 v0 7 (f_M_wantNumber v0 x5 h6) fun x7 h7 =>
f_M_operate_b185 v0 v1 v2 x6 x7 h7)
else
(f_M_operate_b185 v0 v1 v2 x6 (0x0000000000000000) h6)))
else
(gk_cv h2 v0 7 (f_M_wantAny v0 x3 h2) fun x8 h8 =>
gk_cv h8 v0 7 (f_M_wantAny v0 x5 h8) fun x9 h9 =>
((gk_get h9 v0 7 11).bind gk_asI).bind fun x10 =>
if x10 = 0 then
(if v1 = (8 : Int32) then
(f_M_operate_b119 v0 v2 x8 x9 v0 (0 : Int32) h9)
else
(if v1 = (9 : Int32) then
(f_M_operate_b119 v0 v2 x8 x9 v0 (1 : Int32) h9)
else
(f_M_operate_b119 v0 v2 x8 x9 v0 (v1 - (8 : Int32)) h9)))
else
(f_M_operate_b133 v0 v2 h9)))
else
(some ((), h1))
def f_M_operate_b30  (v0 : Option Nat) (v1 : Int32) (v2 : Int32) (s0 : Option Nat) (h : gk_H) : Option (Unit × gk_H) :=
f_M_operate_b35 v0 v1 v2 s0 (1 : Int32) h
def f_M_operate_b10  (v0 : Option Nat) (v1 : Int32) (s0 : Int32) (h : gk_H) : Option (Unit × gk_H) :=
if v1 < 0 then
(f_M_operate_b30 v0 v1 s0 v0 h)
else
(if (13 : Int32) < v1 then
(f_M_operate_b30 v0 v1 s0 v0 h)
else
(((gk_get h v0 7 3).bind gk_asI).bind fun x1 =>
if s0 ≤ x1 then
(f_M_operate_b35 v0 v1 s0 v0 (0 : Int32) h)
else
(f_M_operate_b30 v0 v1 s0 v0 h)))
def f_M_operate (a0 : Option Nat) (a1 : Int32) (h : gk_H) : Option (Unit × gk_H) :=
if (2 : Int32) ≤ a1 then
(f_M_operate_b10 a0 a1 (2 : Int32) h)
else
(f_M_operate_b10 a0 a1 (1 : Int32) h)
def f_M_textTakes_b101  (s0 : Int32) (h : gk_H) : Option (Int32 × gk_H) :=
some (s0, h)
def f_M_textTakes (a0 : Int32) (h : gk_H) : Option (Int32 × gk_H) :=
if (59 : Int32) ≤ a0 then
(if a0 = (59 : Int32) then
(f_M_textTakes_b101 (33 : Int32) h)
else
(if (64 : Int32) ≤ a0 then
(if a0 = (64 : Int32) then
(f_M_textTakes_b101 (18 : Int32) h)
else
(if a0 = (65 : Int32) then
(f_M_textTakes_b101 (22 : Int32) h)
else
(if a0 = (66 : Int32) then
(f_M_textTakes_b101 (34 : Int32) h)
else
(if a0 = (67 : Int32) then
(f_M_textTakes_b101 (44 : Int32) h)
else
(if (70 : Int32) ≤ a0 then
(if a0 = (70 : Int32) then
(f_M_textTakes_b101 (22 : Int32) h)
else
(f_M_textTakes_b101 (11 : Int32) h))
else
(f_M_textTakes_b101 (23 : Int32) h))))))
else
(f_M_textTakes_b101 (11 : Int32) h)))
else
(f_M_textTakes_b101 (12 : Int32) h)
def f_M_takes_b31  (s0 : Int32) (h : gk_H) : Option (Int32 × gk_H) :=
some (s0, h)
def f_M_takes_b18  (v0 : Int32) (h : gk_H) : Option (Int32 × gk_H) :=
if v0 = (8 : Int32) then
(f_M_takes_b31 (11 : Int32) h)
else
(f_M_takes_b31 (18 : Int32) h)
def f_M_takes_b319  (s0 : Int32) (h : gk_H) : Option (Int32 × gk_H) :=
some (s0, h)
def f_M_takes_b284   (h : gk_H) : Option (Int32 × gk_H) :=
f_M_takes_b319 (33 : Int32) h
def f_M_takes_b312   (h : gk_H) : Option (Int32 × gk_H) :=
f_M_takes_b319 (22 : Int32) h
def f_M_takes_b271  (s0 : Int32) (h : gk_H) : Option (Int32 × gk_H) :=
some (s0, h)
def f_M_takes_b247   (h : gk_H) : Option (Int32 × gk_H) :=
f_M_takes_b271 (23 : Int32) h
def f_M_takes_b264   (h : gk_H) : Option (Int32 × gk_H) :=
f_M_takes_b271 (34 : Int32) h
def f_M_takes_b208  (s0 : Int32) (h : gk_H) : Option (Int32 × gk_H) :=
some (s0, h)
def f_M_takes_b145  (s0 : Int32) (h : gk_H) : Option (Int32 × gk_H) :=
some (s0, h)
def f_M_takes_b110   (h : gk_H) : Option (Int32 × gk_H) :=
f_M_takes_b145 (11 : Int32) h
def f_M_takes_b127   (h : gk_H) : Option (Int32 × gk_H) :=
f_M_takes_b145 (18 : Int32) h
def f_M_takes_b79  (s0 : Int32) (h : gk_H) : Option (Int32 × gk_H) :=
some (s0, h)
def f_M_takes_b61   (h : gk_H) : Option (Int32 × gk_H) :=
f_M_takes_b79 (23 : Int32) h
def f_M_takes (a0 : Int32) (h : gk_H) : Option (Int32 × gk_H) :=
if a0 < (10 : Int32) then
(f_M_takes_b18 a0 h)
else
(if a0 = (13 : Int32) then
(f_M_takes_b18 a0 h)
else
(if a0 = (14 : Int32) then
(f_M_takes_b18 a0 h)
else
(if (20 : Int32) ≤ a0 then
(if (35 : Int32) ≤ a0 then
(if (46 : Int32) ≤ a0 then
(if (57 : Int32) ≤ a0 then
(if (74 : Int32) ≤ a0 then
(if (81 : Int32) ≤ a0 then
(if a0 = (81 : Int32) then
(f_M_takes_b284 h)
else
(if a0 = (88 : Int32) then
(f_M_takes_b284 h)
else
(if a0 = (85 : Int32) then
(f_M_takes_b319 (12 : Int32) h)
else
(if a0 = (86 : Int32) then
(f_M_takes_b312 h)
else
(if a0 = (87 : Int32) then
(f_M_takes_b312 h)
else
(f_M_takes_b319 (11 : Int32) h))))))
else
(if a0 = (76 : Int32) then
(f_M_takes_b247 h)
else
(if a0 = (77 : Int32) then
(f_M_takes_b247 h)
else
(if a0 = (78 : Int32) then
(f_M_takes_b264 h)
else
(if a0 = (79 : Int32) then
(f_M_takes_b264 h)
else
(f_M_takes_b271 (11 : Int32) h))))))
else
(gk_ca (f_M_textTakes a0 h) fun x1 h1 =>
some (x1, h1)))
else
(some ((11 : Int32), h)))
else
(if a0 = (35 : Int32) then
(f_M_takes_b208 (23 : Int32) h)
else
(if (38 : Int32) ≤ a0 then
(if a0 = (38 : Int32) then
(f_M_takes_b208 (28 : Int32) h)
else
(if (42 : Int32) ≤ a0 then
(if a0 = (42 : Int32) then
(f_M_takes_b208 (11 : Int32) h)
else
(f_M_takes_b208 (0 : Int32) h))
else
(f_M_takes_b208 (18 : Int32) h)))
else
(f_M_takes_b208 (22 : Int32) h))))
else
(if a0 < (22 : Int32) then
(f_M_takes_b110 h)
else
(if a0 = (27 : Int32) then
(f_M_takes_b110 h)
else
(if a0 = (29 : Int32) then
(f_M_takes_b110 h)
else
(if a0 = (30 : Int32) then
(f_M_takes_b110 h)
else
(if a0 = (25 : Int32) then
(f_M_takes_b127 h)
else
(if a0 = (26 : Int32) then
(f_M_takes_b127 h)
else
(if a0 ≤ (32 : Int32) then
(f_M_takes_b145 (22 : Int32) h)
else
(f_M_takes_b145 (12 : Int32) h)))))))))
else
(if a0 = (15 : Int32) then
(f_M_takes_b79 (14 : Int32) h)
else
(if a0 = (17 : Int32) then
(f_M_takes_b61 h)
else
(if a0 = (18 : Int32) then
(f_M_takes_b61 h)
else
(if a0 = (19 : Int32) then
(f_M_takes_b79 (11 : Int32) h)
else
(f_M_takes_b79 (22 : Int32) h))))))))
def f_M_howMany_b232 (b6 : Option Nat → Int32 → Int32 → Int32 → Int32 → Int32 → gk_H → Option (Int32 × gk_H)) (b35 : Option Nat → Int32 → Int32 → Int32 → Int32 → Int32 → Int32 → Int32 → gk_H → Option (Int32 × gk_H)) (v0 : Option Nat) (v1 : Int32) (v2 : Int32) (v3 : Int32) (v5 : Int32) (v6 : Int32) (v7 : Int32) (s0 : Int32) (h : gk_H) : Option (Int32 × gk_H) :=
gk_let (v7 + (1 : Int32)) fun x1 =>
b35 v0 v1 v2 v3 s0 v5 v6 x1 h
def f_M_howMany_b216 (b6 : Option Nat → Int32 → Int32 → Int32 → Int32 → Int32 → gk_H → Option (Int32 × gk_H)) (b35 : Option Nat → Int32 → Int32 → Int32 → Int32 → Int32 → Int32 → Int32 → gk_H → Option (Int32 × gk_H)) (v0 : Option Nat) (v1 : Int32) (v2 : Int32) (v3 : Int32) (v4 : Int32) (v5 : Int32) (v6 : Int32) (v7 : Int32) (s0 : Int32) (h : gk_H) : Option (Int32 × gk_H) :=
if s0 = 0 then
(f_M_howMany_b232 b6 b35 v0 v1 v2 v3 v5 v6 v7 v4 h)
else
(f_M_howMany_b232 b6 b35 v0 v1 v2 v3 v5 v6 v7 (v4 + (1 : Int32)) h)
def f_M_howMany_b211 (b6 : Option Nat → Int32 → Int32 → Int32 → Int32 → Int32 → gk_H → Option (Int32 × gk_H)) (b35 : Option Nat → Int32 → Int32 → Int32 → Int32 → Int32 → Int32 → Int32 → gk_H → Option (Int32 × gk_H)) (v0 : Option Nat) (v1 : Int32) (v2 : Int32) (v3 : Int32) (v4 : Int32) (v5 : Int32) (v6 : Int32) (v7 : Int32) (h : gk_H) : Option (Int32 × gk_H) :=
f_M_howMany_b216 b6 b35 v0 v1 v2 v3 v4 v5 v6 v7 (1 : Int32) h
def f_M_howMany_b215 (b6 : Option Nat → Int32 → Int32 → Int32 → Int32 → Int32 → gk_H → Option (Int32 × gk_H)) (b35 : Option Nat → Int32 → Int32 → Int32 → Int32 → Int32 → Int32 → Int32 → gk_H → Option (Int32 × gk_H)) (v0 : Option Nat) (v1 : Int32) (v2 : Int32) (v3 : Int32) (v4 : Int32) (v5 : Int32) (v6 : Int32) (v7 : Int32) (h : gk_H) : Option (Int32 × gk_H) :=
f_M_howMany_b216 b6 b35 v0 v1 v2 v3 v4 v5 v6 v7 (0 : Int32) h
def f_M_howMany_b131 (b6 : Option Nat → Int32 → Int32 → Int32 → Int32 → Int32 → gk_H → Option (Int32 × gk_H)) (b35 : Option Nat → Int32 → Int32 → Int32 → Int32 → Int32 → Int32 → Int32 → gk_H → Option (Int32 × gk_H)) (v0 : Option Nat) (v1 : Int32) (v2 : Int32) (v3 : Int32) (v4 : Int32) (v5 : Int32) (v6 : Int32) (v7 : Int32) (h : gk_H) : Option (Int32 × gk_H) :=
f_M_howMany_b216 b6 b35 v0 v1 v2 v3 v4 v5 v6 v7 (1 : Int32) h
def f_M_howMany_b102 (b6 : Option Nat → Int32 → Int32 → Int32 → Int32 → Int32 → gk_H → Option (Int32 × gk_H)) (b35 : Option Nat → Int32 → Int32 → Int32 → Int32 → Int32 → Int32 → Int32 → gk_H → Option (Int32 × gk_H)) (v0 : Option Nat) (v1 : Int32) (v2 : Int32) (v3 : Int32) (v4 : Int32) (v5 : Int32) (v6 : Int32) (v7 : Int32) (h : gk_H) : Option (Int32 × gk_H) :=
f_M_howMany_b216 b6 b35 v0 v1 v2 v3 v4 v5 v6 v7 (1 : Int32) h
def f_M_howMany_b106 (b6 : Option Nat → Int32 → Int32 → Int32 → Int32 → Int32 → gk_H → Option (Int32 × gk_H)) (b35 : Option Nat → Int32 → Int32 → Int32 → Int32 → Int32 → Int32 → Int32 → gk_H → Option (Int32 × gk_H)) (v0 : Option Nat) (v1 : Int32) (v2 : Int32) (v3 : Int32) (v4 : Int32) (v5 : Int32) (v6 : Int32) (v7 : Int32) (h : gk_H) : Option (Int32 × gk_H) :=
f_M_howMany_b216 b6 b35 v0 v1 v2 v3 v4 v5 v6 v7 (0 : Int32) h
def f_M_howMany_b35 (b6 : Option Nat → Int32 → Int32 → Int32 → Int32 → Int32 → gk_H → Option (Int32 × gk_H)) : Nat → Option Nat → Int32 → Int32 → Int32 → Int32 → Int32 → Int32 → Int32 → gk_H → Option (Int32 × gk_H)
  | 0 => fun _ _ _ _ _ _ _ _ _ => none
  | fu + 1 => fun v0 v1 v2 v3 v4 v5 v6 v7 h =>
((gk_get h v0 7 5).bind gk_asR).bind fun x1 =>
((gk_ald h x1 1 v5).bind gk_asI).bind fun x2 =>
((gk_get h v0 7 6).bind gk_asR).bind fun x3 =>
((gk_ald h x3 1 v5).bind gk_asI).bind fun x4 =>
if (x2 * x4) ≤ v7 then
(gk_let (v5 + (1 : Int32)) fun x5 =>
b6 v0 v1 v2 v3 v4 x5 h)
else
(gk_let (((16 : Int32) * v5) + v7) fun x6 =>
if v1 = (8 : Int32) then
(((gk_get h v0 7 7).bind gk_asR).bind fun x7 =>
((gk_ald h x7 1 x6).bind gk_asI).bind fun x8 =>
if x8 = 0 then
(f_M_howMany_b102 b6 (f_M_howMany_b35 b6 fu) v0 v1 v2 v3 v4 v5 v6 v7 h)
else
(((gk_get h v0 7 7).bind gk_asR).bind fun x9 =>
((gk_ald h x9 1 x6).bind gk_asI).bind fun x10 =>
if x10 = (2 : Int32) then
(((gk_get h v0 7 9).bind gk_asR).bind fun x11 =>
((gk_ald h x11 1 x6).bind gk_asI).bind fun x12 =>
if x12 = 0 then
(f_M_howMany_b102 b6 (f_M_howMany_b35 b6 fu) v0 v1 v2 v3 v4 v5 v6 v7 h)
else
(f_M_howMany_b106 b6 (f_M_howMany_b35 b6 fu) v0 v1 v2 v3 v4 v5 v6 v7 h))
else
(f_M_howMany_b106 b6 (f_M_howMany_b35 b6 fu) v0 v1 v2 v3 v4 v5 v6 v7 h)))
else
(if v1 = (7 : Int32) then
(if v6 = 0 then
(((gk_get h v0 7 7).bind gk_asR).bind fun x13 =>
((gk_ald h x13 1 x6).bind gk_asI).bind fun x14 =>
if x14 ≤ 0 then
(f_M_howMany_b216 b6 (f_M_howMany_b35 b6 fu) v0 v1 v2 v3 v4 v5 v6 v7 (0 : Int32) h)
else
(f_M_howMany_b131 b6 (f_M_howMany_b35 b6 fu) v0 v1 v2 v3 v4 v5 v6 v7 h))
else
(f_M_howMany_b131 b6 (f_M_howMany_b35 b6 fu) v0 v1 v2 v3 v4 v5 v6 v7 h))
else
(((gk_get h v0 7 7).bind gk_asR).bind fun x15 =>
((gk_ald h x15 1 x6).bind gk_asI).bind fun x16 =>
if x16 = (1 : Int32) then
(f_M_howMany_b211 b6 (f_M_howMany_b35 b6 fu) v0 v1 v2 v3 v4 v5 v6 v7 h)
else
(if v6 = 0 then
(f_M_howMany_b215 b6 (f_M_howMany_b35 b6 fu) v0 v1 v2 v3 v4 v5 v6 v7 h)
else
(((gk_get h v0 7 7).bind gk_asR).bind fun x17 =>
((gk_ald h x17 1 x6).bind gk_asI).bind fun x18 =>
if x18 = 0 then
(f_M_howMany_b211 b6 (f_M_howMany_b35 b6 fu) v0 v1 v2 v3 v4 v5 v6 v7 h)
else
(((gk_get h v0 7 7).bind gk_asR).bind fun x19 =>
((gk_ald h x19 1 x6).bind gk_asI).bind fun x20 =>
if x20 = (3 : Int32) then
(f_M_howMany_b211 b6 (f_M_howMany_b35 b6 fu) v0 v1 v2 v3 v4 v5 v6 v7 h)
else
(((gk_get h v0 7 7).bind gk_asR).bind fun x21 =>
((gk_ald h x21 1 x6).bind gk_asI).bind fun x22 =>
if x22 = (2 : Int32) then
(((gk_get h v0 7 10).bind gk_asR).bind fun x23 =>
((gk_get h v0 7 9).bind gk_asR).bind fun x24 =>
((gk_ald h x24 1 x6).bind gk_asI).bind fun x25 =>
gk_cv h v0 7 (f_M_isNumeral v0 x23 ((256 : Int32) * x6) x25 h) fun x26 h1 =>
if x26 = 0 then
(f_M_howMany_b215 b6 (f_M_howMany_b35 b6 fu) v0 v1 v2 v3 v4 v5 v6 v7 h1)
else
(f_M_howMany_b211 b6 (f_M_howMany_b35 b6 fu) v0 v1 v2 v3 v4 v5 v6 v7 h1))
else
(f_M_howMany_b215 b6 (f_M_howMany_b35 b6 fu) v0 v1 v2 v3 v4 v5 v6 v7 h))))))))
def f_M_howMany_b30 (b6 : Option Nat → Int32 → Int32 → Int32 → Int32 → Int32 → gk_H → Option (Int32 × gk_H)) (v0 : Option Nat) (v1 : Int32) (v2 : Int32) (v3 : Int32) (v4 : Int32) (v5 : Int32) (s0 : Int32) (h : gk_H) : Option (Int32 × gk_H) :=
f_M_howMany_b35 b6 gk_F v0 v1 v2 v3 v4 v5 s0 (0 : Int32) h
def f_M_howMany_b6  : Nat → Option Nat → Int32 → Int32 → Int32 → Int32 → Int32 → gk_H → Option (Int32 × gk_H)
  | 0 => fun _ _ _ _ _ _ _ => none
  | fu + 1 => fun v0 v1 v2 v3 v4 v5 h =>
if (v2 + v3) ≤ v5 then
(some (v4, h))
else
(((gk_get h v0 7 4).bind gk_asR).bind fun x1 =>
((gk_ald h x1 1 v5).bind gk_asI).bind fun x2 =>
if (5 : Int32) ≤ x2 then
(f_M_howMany_b30 (f_M_howMany_b6 fu) v0 v1 v2 v3 v4 v5 (0 : Int32) h)
else
(f_M_howMany_b30 (f_M_howMany_b6 fu) v0 v1 v2 v3 v4 v5 (1 : Int32) h))
def f_M_howMany (a0 : Option Nat) (a1 : Int32) (a2 : Int32) (a3 : Int32) (h : gk_H) : Option (Int32 × gk_H) :=
f_M_howMany_b6 gk_F a0 a1 a2 a3 (0 : Int32) a2 h
def f_M_gather (a0 : Option Nat) (a1 : UInt64) (h : gk_H) : Option (Unit × gk_H) :=
((gk_get h a0 7 13).bind gk_asR).bind fun x1 =>
((gk_get h a0 7 12).bind gk_asI).bind fun x2 =>
(gk_ast h x1 6 x2 (.double a1)).bind fun h1 =>
((gk_get h1 a0 7 12).bind gk_asI).bind fun x3 =>
(gk_set h1 a0 7 12 (.int (x3 + (1 : Int32)))).bind fun h2 =>
some ((), h2)
def f_M_wantCells_b80   (h : gk_H) : Option (Unit × gk_H) :=
some ((), h)
def f_M_wantCells_b74 (b2 : Option Nat → Int32 → Int32 → gk_H → Option (Unit × gk_H)) (v0 : Option Nat) (v1 : Int32) (v2 : Int32) (h : gk_H) : Option (Unit × gk_H) :=
gk_let (v2 + (1 : Int32)) fun x1 =>
b2 v0 v1 x1 h
def f_M_wantCells_b54 (b2 : Option Nat → Int32 → Int32 → gk_H → Option (Unit × gk_H)) (v0 : Option Nat) (v1 : Int32) (v2 : Int32) (v3 : Int32) (h : gk_H) : Option (Unit × gk_H) :=
((gk_get h v0 7 7).bind gk_asR).bind fun x1 =>
((gk_ald h x1 1 v3).bind gk_asI).bind fun x2 =>
if x2 = (1 : Int32) then
(((gk_get h v0 7 8).bind gk_asR).bind fun x3 =>
((gk_ald h x3 6 v3).bind gk_asD).bind fun x4 =>
gk_cv h v0 7 (f_M_gather v0 x4 h) fun _ h1 =>
f_M_wantCells_b74 b2 v0 v1 v2 h1)
else
(f_M_wantCells_b74 b2 v0 v1 v2 h)
def f_M_wantCells_b2  : Nat → Option Nat → Int32 → Int32 → gk_H → Option (Unit × gk_H)
  | 0 => fun _ _ _ _ => none
  | fu + 1 => fun v0 v1 v2 h =>
((gk_get h v0 7 5).bind gk_asR).bind fun x1 =>
((gk_ald h x1 1 v1).bind gk_asI).bind fun x2 =>
((gk_get h v0 7 6).bind gk_asR).bind fun x3 =>
((gk_ald h x3 1 v1).bind gk_asI).bind fun x4 =>
if (x2 * x4) ≤ v2 then
(f_M_wantCells_b80 h)
else
(((gk_get h v0 7 11).bind gk_asI).bind fun x5 =>
if x5 = 0 then
(gk_let (((16 : Int32) * v1) + v2) fun x6 =>
((gk_get h v0 7 7).bind gk_asR).bind fun x7 =>
((gk_ald h x7 1 x6).bind gk_asI).bind fun x8 =>
if x8 = (4 : Int32) then
(((gk_get h v0 7 8).bind gk_asR).bind fun x9 =>
((gk_ald h x9 6 x6).bind gk_asD).bind fun x10 =>
gk_cv h v0 7 (f_M_fail v0 (FP.d2i x10) h) fun _ h1 =>
f_M_wantCells_b54 (f_M_wantCells_b2 fu) v0 v1 v2 x6 h1)
else
(f_M_wantCells_b54 (f_M_wantCells_b2 fu) v0 v1 v2 x6 h))
else
(f_M_wantCells_b80 h))
def f_M_wantCells (a0 : Option Nat) (a1 : Int32) (h : gk_H) : Option (Unit × gk_H) :=
f_M_wantCells_b2 gk_F a0 a1 (0 : Int32) h
def f_M_wantWhole_b48  (s0 : Int64) (h : gk_H) : Option (Int64 × gk_H) :=
some (s0, h)
def f_M_wantWhole_b35  (v0 : Option Nat) (v2 : UInt64) (h : gk_H) : Option (Int64 × gk_H) :=
((gk_get h v0 7 11).bind gk_asI).bind fun x1 =>
if x1 ≤ 0 then
(f_M_wantWhole_b48 (FP.d2l v2) h)
else
(f_M_wantWhole_b48 (0 : Int64) h)
def f_M_wantWhole_b29  (v0 : Option Nat) (v2 : UInt64) (h : gk_H) : Option (Int64 × gk_H) :=
gk_cv h v0 7 (f_M_fail v0 (6 : Int32) h) fun _ h1 =>
f_M_wantWhole_b35 v0 v2 h1
def f_M_wantWhole (a0 : Option Nat) (a1 : Int32) (h : gk_H) : Option (Int64 × gk_H) :=
gk_cv h a0 7 (f_M_wantNumber a0 a1 h) fun x1 h1 =>
((gk_get h1 a0 7 11).bind gk_asI).bind fun x2 =>
if x2 = 0 then
(if 0 ≤ (Op.cmpValue (FP.dcmp x1 (0x4340000000000000)) .l) then
(f_M_wantWhole_b29 a0 x1 h1)
else
(if 0 < (Op.cmpValue (FP.dcmp x1 (0xc340000000000000)) .g) then
(f_M_wantWhole_b35 a0 x1 h1)
else
(f_M_wantWhole_b29 a0 x1 h1)))
else
(f_M_wantWhole_b35 a0 x1 h1)
def f_M_sort_b61 (b2 : Option Nat → Int32 → gk_H → Option (Unit × gk_H)) (v0 : Option Nat) (v1 : Int32) (v2 : UInt64) (v4 : Int32) (h : gk_H) : Option (Unit × gk_H) :=
((gk_get h v0 7 13).bind gk_asR).bind fun x1 =>
(gk_ast h x1 6 v4 (.double v2)).bind fun h1 =>
gk_let (v1 + (1 : Int32)) fun x2 =>
b2 v0 x2 h1
def f_M_sort_b20 (b2 : Option Nat → Int32 → gk_H → Option (Unit × gk_H)) : Nat → Option Nat → Int32 → UInt64 → Int32 → gk_H → Option (Unit × gk_H)
  | 0 => fun _ _ _ _ _ => none
  | fu + 1 => fun v0 v1 v2 v4 h =>
if v4 ≤ 0 then
(f_M_sort_b61 b2 v0 v1 v2 v4 h)
else
(((gk_get h v0 7 13).bind gk_asR).bind fun x1 =>
((gk_ald h x1 6 (v4 - (1 : Int32))).bind gk_asD).bind fun x2 =>
if (Op.cmpValue (FP.dcmp x2 v2) .l) ≤ 0 then
(f_M_sort_b61 b2 v0 v1 v2 v4 h)
else
(((gk_get h v0 7 13).bind gk_asR).bind fun x3 =>
((gk_get h v0 7 13).bind gk_asR).bind fun x4 =>
((gk_ald h x4 6 (v4 - (1 : Int32))).bind gk_asD).bind fun x5 =>
(gk_ast h x3 6 v4 (.double x5)).bind fun h1 =>
gk_let (v4 + (-1 : Int32)) fun x6 =>
(f_M_sort_b20 b2 fu) v0 v1 v2 x6 h1))
def f_M_sort_b2  : Nat → Option Nat → Int32 → gk_H → Option (Unit × gk_H)
  | 0 => fun _ _ _ => none
  | fu + 1 => fun v0 v1 h =>
((gk_get h v0 7 12).bind gk_asI).bind fun x1 =>
if x1 ≤ v1 then
(some ((), h))
else
(((gk_get h v0 7 13).bind gk_asR).bind fun x2 =>
((gk_ald h x2 6 v1).bind gk_asD).bind fun x3 =>
f_M_sort_b20 (f_M_sort_b2 fu) gk_F v0 v1 x3 v1 h)
def f_M_sort (a0 : Option Nat) (h : gk_H) : Option (Unit × gk_H) :=
f_M_sort_b2 gk_F a0 (1 : Int32) h
def f_M_ranks_b153  (v0 : Option Nat) (h : gk_H) : Option (Unit × gk_H) :=
gk_cv h v0 7 (f_M_fail v0 (6 : Int32) h) fun _ h1 =>
some ((), h1)
def f_M_ranks_b189  (s0 : Option Nat) (s1 : Option Nat) (s2 : Int32) (h : gk_H) : Option (Unit × gk_H) :=
((gk_ald h s1 6 s2).bind gk_asD).bind fun x1 =>
gk_cv h s0 7 (f_M_answerNumber s0 x1 h) fun _ h1 =>
some ((), h1)
def f_M_ranks_b106  (v0 : Option Nat) (v5 : Int32) (h : gk_H) : Option (Unit × gk_H) :=
gk_cv h v0 7 (f_M_answerNumber v0 (FP.i2d (v5 + (1 : Int32))) h) fun _ h1 =>
some ((), h1)
def f_M_ranks_b87 (b33 : Option Nat → UInt64 → Int32 → Int32 → Int32 → gk_H → Option (Unit × gk_H)) (v0 : Option Nat) (v3 : UInt64) (v5 : Int32) (v7 : Int32) (s0 : Int32) (h : gk_H) : Option (Unit × gk_H) :=
gk_let (v7 + (1 : Int32)) fun x1 =>
b33 v0 v3 v5 s0 x1 h
def f_M_ranks_b82 (b33 : Option Nat → UInt64 → Int32 → Int32 → Int32 → gk_H → Option (Unit × gk_H)) (v0 : Option Nat) (v3 : UInt64) (v5 : Int32) (v7 : Int32) (h : gk_H) : Option (Unit × gk_H) :=
f_M_ranks_b87 b33 v0 v3 v5 v7 (1 : Int32) h
def f_M_ranks_b63 (b33 : Option Nat → UInt64 → Int32 → Int32 → Int32 → gk_H → Option (Unit × gk_H)) (v0 : Option Nat) (v3 : UInt64) (v6 : Int32) (v7 : Int32) (s0 : Int32) (h : gk_H) : Option (Unit × gk_H) :=
if v6 = 0 then
(((gk_get h v0 7 13).bind gk_asR).bind fun x1 =>
((gk_ald h x1 6 v7).bind gk_asD).bind fun x2 =>
if (Op.cmpValue (FP.dcmp x2 v3) .l) = 0 then
(f_M_ranks_b82 b33 v0 v3 s0 v7 h)
else
(f_M_ranks_b87 b33 v0 v3 s0 v7 (0 : Int32) h))
else
(f_M_ranks_b82 b33 v0 v3 s0 v7 h)
def f_M_ranks_b33  : Nat → Option Nat → UInt64 → Int32 → Int32 → Int32 → gk_H → Option (Unit × gk_H)
  | 0 => fun _ _ _ _ _ _ => none
  | fu + 1 => fun v0 v3 v5 v6 v7 h =>
((gk_get h v0 7 12).bind gk_asI).bind fun x1 =>
if x1 ≤ v7 then
(if v6 = 0 then
(gk_cv h v0 7 (f_M_fail v0 (7 : Int32) h) fun _ h1 =>
f_M_ranks_b106 v0 v5 h1)
else
(f_M_ranks_b106 v0 v5 h))
else
(((gk_get h v0 7 13).bind gk_asR).bind fun x2 =>
((gk_ald h x2 6 v7).bind gk_asD).bind fun x3 =>
if (Op.cmpValue (FP.dcmp x3 v3) .l) ≤ 0 then
(f_M_ranks_b63 (f_M_ranks_b33 fu) v0 v3 v6 v7 v5 h)
else
(f_M_ranks_b63 (f_M_ranks_b33 fu) v0 v3 v6 v7 (v5 + (1 : Int32)) h))
def f_M_ranks (a0 : Option Nat) (a1 : Int32) (a2 : Int32) (h : gk_H) : Option (Unit × gk_H) :=
(gk_set h a0 7 12 (.int (0 : Int32))).bind fun h1 =>
if a1 = (12 : Int32) then
(gk_cv h1 a0 7 (f_M_wantNumber a0 a2 h1) fun x1 h2 =>
gk_cv h2 a0 7 (f_M_wantCells a0 (a2 + (1 : Int32)) h2) fun _ h3 =>
f_M_ranks_b33 gk_F a0 x1 (0 : Int32) (0 : Int32) (0 : Int32) h3)
else
(gk_cv h1 a0 7 (f_M_wantCells a0 a2 h1) fun _ h4 =>
gk_cv h4 a0 7 (f_M_wantWhole a0 (a2 + (1 : Int32)) h4) fun x2 h5 =>
((gk_get h5 a0 7 11).bind gk_asI).bind fun x3 =>
if x3 ≤ 0 then
(if (lg_cmp x2 (1 : Int64)) < 0 then
(f_M_ranks_b153 a0 h5)
else
(((gk_get h5 a0 7 12).bind gk_asI).bind fun x4 =>
if (lg_cmp x2 (Int32.toInt64 x4)) ≤ 0 then
(gk_cv h5 a0 7 (f_M_sort a0 h5) fun _ h6 =>
((gk_get h6 a0 7 13).bind gk_asR).bind fun x5 =>
if a1 = (11 : Int32) then
(f_M_ranks_b189 a0 x5 ((Int64.toInt32 x2) - (1 : Int32)) h6)
else
(((gk_get h6 a0 7 12).bind gk_asI).bind fun x6 =>
f_M_ranks_b189 a0 x5 (x6 - (Int64.toInt32 x2)) h6))
else
(f_M_ranks_b153 a0 h5)))
else
(some ((), h5)))
def f_M_wantRow_b117   (h : gk_H) : Option (Unit × gk_H) :=
some ((), h)
def f_M_wantRow_b111 (b39 : Option Nat → Int32 → Int32 → gk_H → Option (Unit × gk_H)) (v0 : Option Nat) (v1 : Int32) (v2 : Int32) (h : gk_H) : Option (Unit × gk_H) :=
gk_let (v2 + (1 : Int32)) fun x1 =>
b39 v0 v1 x1 h
def f_M_wantRow_b91 (b39 : Option Nat → Int32 → Int32 → gk_H → Option (Unit × gk_H)) (v0 : Option Nat) (v1 : Int32) (v2 : Int32) (v3 : Int32) (h : gk_H) : Option (Unit × gk_H) :=
((gk_get h v0 7 7).bind gk_asR).bind fun x1 =>
((gk_ald h x1 1 v3).bind gk_asI).bind fun x2 =>
if x2 = (1 : Int32) then
(((gk_get h v0 7 8).bind gk_asR).bind fun x3 =>
((gk_ald h x3 6 v3).bind gk_asD).bind fun x4 =>
gk_cv h v0 7 (f_M_gather v0 x4 h) fun _ h1 =>
f_M_wantRow_b111 b39 v0 v1 v2 h1)
else
(f_M_wantRow_b111 b39 v0 v1 v2 h)
def f_M_wantRow_b39  : Nat → Option Nat → Int32 → Int32 → gk_H → Option (Unit × gk_H)
  | 0 => fun _ _ _ _ => none
  | fu + 1 => fun v0 v1 v2 h =>
((gk_get h v0 7 5).bind gk_asR).bind fun x1 =>
((gk_ald h x1 1 v1).bind gk_asI).bind fun x2 =>
((gk_get h v0 7 6).bind gk_asR).bind fun x3 =>
((gk_ald h x3 1 v1).bind gk_asI).bind fun x4 =>
if (x2 * x4) ≤ v2 then
(f_M_wantRow_b117 h)
else
(((gk_get h v0 7 11).bind gk_asI).bind fun x5 =>
if x5 = 0 then
(gk_let (((16 : Int32) * v1) + v2) fun x6 =>
((gk_get h v0 7 7).bind gk_asR).bind fun x7 =>
((gk_ald h x7 1 x6).bind gk_asI).bind fun x8 =>
if x8 = (4 : Int32) then
(((gk_get h v0 7 8).bind gk_asR).bind fun x9 =>
((gk_ald h x9 6 x6).bind gk_asD).bind fun x10 =>
gk_cv h v0 7 (f_M_fail v0 (FP.d2i x10) h) fun _ h1 =>
f_M_wantRow_b91 (f_M_wantRow_b39 fu) v0 v1 v2 x6 h1)
else
(f_M_wantRow_b91 (f_M_wantRow_b39 fu) v0 v1 v2 x6 h))
else
(f_M_wantRow_b117 h))
def f_M_wantRow_b36   (h : gk_H) : Option (Unit × gk_H) :=
some ((), h)
def f_M_wantRow (a0 : Option Nat) (a1 : Int32) (h : gk_H) : Option (Unit × gk_H) :=
((gk_get h a0 7 11).bind gk_asI).bind fun x1 =>
if x1 ≤ 0 then
(((gk_get h a0 7 4).bind gk_asR).bind fun x2 =>
((gk_ald h x2 1 a1).bind gk_asI).bind fun x3 =>
if (5 : Int32) ≤ x3 then
(f_M_wantRow_b39 gk_F a0 a1 (0 : Int32) h)
else
(gk_cv h a0 7 (f_M_wantNumber a0 a1 h) fun x4 h1 =>
((gk_get h1 a0 7 11).bind gk_asI).bind fun x5 =>
if x5 = 0 then
(gk_cv h1 a0 7 (f_M_gather a0 x4 h1) fun _ h2 =>
f_M_wantRow_b36 h2)
else
(f_M_wantRow_b36 h1)))
else
(some ((), h))
def f_M_wantRows_b7  : Nat → Option Nat → Int32 → Int32 → Int32 → gk_H → Option (Unit × gk_H)
  | 0 => fun _ _ _ _ _ => none
  | fu + 1 => fun v0 v1 v2 v3 h =>
if (v1 + v2) ≤ v3 then
(some ((), h))
else
(gk_cv h v0 7 (f_M_wantRow v0 v3 h) fun _ h1 =>
gk_let (v3 + (1 : Int32)) fun x1 =>
(f_M_wantRows_b7 fu) v0 v1 v2 x1 h1)
def f_M_wantRows (a0 : Option Nat) (a1 : Int32) (a2 : Int32) (h : gk_H) : Option (Unit × gk_H) :=
(gk_set h a0 7 12 (.int (0 : Int32))).bind fun h1 =>
f_M_wantRows_b7 gk_F a0 a1 a2 a1 h1
def f_M_addSquare_b28  (s0 : UInt64) (h : gk_H) : Option (UInt64 × gk_H) :=
some (s0, h)
def f_M_addSquare (a0 : Option Nat) (a1 : UInt64) (a2 : UInt64) (h : gk_H) : Option (UInt64 × gk_H) :=
gk_dop (FP.dmul a2 a2) fun x1 =>
gk_cv h a0 7 (f_M_step a0 x1 h) fun x2 h1 =>
((gk_get h1 a0 7 11).bind gk_asI).bind fun x3 =>
if x3 ≤ 0 then
(gk_dop (FP.dadd a1 x2) fun x4 =>
gk_cv h1 a0 7 (f_M_step a0 x4 h1) fun x5 h2 =>
f_M_addSquare_b28 x5 h2)
else
(f_M_addSquare_b28 (0x0000000000000000) h1)
def f_M_median (a0 : Option Nat) (h : gk_H) : Option (UInt64 × gk_H) :=
((gk_get h a0 7 12).bind gk_asI).bind fun x1 =>
if x1 = 0 then
(gk_cv h a0 7 (f_M_fail a0 (6 : Int32) h) fun _ h1 =>
some ((0x0000000000000000), h1))
else
(gk_cv h a0 7 (f_M_sort a0 h) fun _ h2 =>
((gk_get h2 a0 7 12).bind gk_asI).bind fun x2 =>
if (x2 - x2 / (2 : Int32) * (2 : Int32)) = (1 : Int32) then
(((gk_get h2 a0 7 13).bind gk_asR).bind fun x3 =>
((gk_get h2 a0 7 12).bind gk_asI).bind fun x4 =>
((gk_ald h2 x3 6 (x4 / (2 : Int32))).bind gk_asD).bind fun x5 =>
some (x5, h2))
else
(((gk_get h2 a0 7 13).bind gk_asR).bind fun x6 =>
((gk_get h2 a0 7 12).bind gk_asI).bind fun x7 =>
((gk_ald h2 x6 6 ((x7 / (2 : Int32)) - (1 : Int32))).bind gk_asD).bind fun x8 =>
((gk_get h2 a0 7 13).bind gk_asR).bind fun x9 =>
((gk_get h2 a0 7 12).bind gk_asI).bind fun x10 =>
((gk_ald h2 x9 6 (x10 / (2 : Int32))).bind gk_asD).bind fun x11 =>
gk_dop (FP.dadd x8 x11) fun x12 =>
gk_cv h2 a0 7 (f_M_step a0 x12 h2) fun x13 h3 =>
gk_dop (FP.ddiv x13 (0x4000000000000000)) fun x14 =>
some (x14, h3)))
def f_M_variance_b168  (s0 : UInt64) (h : gk_H) : Option (UInt64 × gk_H) :=
some (s0, h)
def f_M_variance_b165  (s0 : Option Nat) (s1 : UInt64) (s2 : UInt64) (h : gk_H) : Option (UInt64 × gk_H) :=
gk_cv h s0 7 (f_M_divide s0 s1 s2 h) fun x1 h1 =>
f_M_variance_b168 x1 h1
def f_M_variance_b132  (v0 : Option Nat) (v1 : Int32) (v6 : UInt64) (h : gk_H) : Option (UInt64 × gk_H) :=
((gk_get h v0 7 11).bind gk_asI).bind fun x1 =>
if x1 ≤ 0 then
(if v1 = 0 then
(((gk_get h v0 7 12).bind gk_asI).bind fun x2 =>
f_M_variance_b165 v0 v6 (FP.i2d x2) h)
else
(((gk_get h v0 7 12).bind gk_asI).bind fun x3 =>
f_M_variance_b165 v0 v6 (FP.i2d (x3 - (1 : Int32))) h))
else
(f_M_variance_b168 (0x0000000000000000) h)
def f_M_variance_b126 (b77 : Option Nat → Int32 → UInt64 → UInt64 → Int32 → gk_H → Option (UInt64 × gk_H)) (v0 : Option Nat) (v1 : Int32) (v4 : UInt64) (v6 : UInt64) (v8 : Int32) (h : gk_H) : Option (UInt64 × gk_H) :=
gk_let (v8 + (1 : Int32)) fun x1 =>
b77 v0 v1 v4 v6 x1 h
def f_M_variance_b77  : Nat → Option Nat → Int32 → UInt64 → UInt64 → Int32 → gk_H → Option (UInt64 × gk_H)
  | 0 => fun _ _ _ _ _ _ => none
  | fu + 1 => fun v0 v1 v4 v6 v8 h =>
((gk_get h v0 7 12).bind gk_asI).bind fun x1 =>
if x1 ≤ v8 then
(f_M_variance_b132 v0 v1 v6 h)
else
(((gk_get h v0 7 11).bind gk_asI).bind fun x2 =>
if x2 = 0 then
(((gk_get h v0 7 13).bind gk_asR).bind fun x3 =>
((gk_ald h x3 6 v8).bind gk_asD).bind fun x4 =>
gk_dop (FP.dsub x4 v4) fun x5 =>
gk_cv h v0 7 (f_M_step v0 x5 h) fun x6 h1 =>
((gk_get h1 v0 7 11).bind gk_asI).bind fun x7 =>
if x7 = 0 then
(gk_cv h1 v0 7 (f_M_addSquare v0 v6 x6 h1) fun x8 h2 =>
f_M_variance_b126 (f_M_variance_b77 fu) v0 v1 v4 x8 v8 h2)
else
(f_M_variance_b126 (f_M_variance_b77 fu) v0 v1 v4 v6 v8 h1))
else
(f_M_variance_b132 v0 v1 v6 h))
def f_M_variance_b41  (v0 : Option Nat) (v1 : Int32) (v2 : UInt64) (h : gk_H) : Option (UInt64 × gk_H) :=
((gk_get h v0 7 11).bind gk_asI).bind fun x1 =>
if x1 ≤ 0 then
(((gk_get h v0 7 12).bind gk_asI).bind fun x2 =>
gk_cv h v0 7 (f_M_divide v0 v2 (FP.i2d x2) h) fun x3 h1 =>
((gk_get h1 v0 7 11).bind gk_asI).bind fun x4 =>
if x4 ≤ 0 then
(f_M_variance_b77 gk_F v0 v1 x3 (0x0000000000000000) (0 : Int32) h1)
else
(some ((0x0000000000000000), h1)))
else
(some ((0x0000000000000000), h))
def f_M_variance_b5  : Nat → Option Nat → Int32 → UInt64 → Int32 → gk_H → Option (UInt64 × gk_H)
  | 0 => fun _ _ _ _ _ => none
  | fu + 1 => fun v0 v1 v2 v4 h =>
((gk_get h v0 7 12).bind gk_asI).bind fun x1 =>
if x1 ≤ v4 then
(f_M_variance_b41 v0 v1 v2 h)
else
(((gk_get h v0 7 11).bind gk_asI).bind fun x2 =>
if x2 = 0 then
(((gk_get h v0 7 13).bind gk_asR).bind fun x3 =>
((gk_ald h x3 6 v4).bind gk_asD).bind fun x4 =>
gk_dop (FP.dadd v2 x4) fun x5 =>
gk_cv h v0 7 (f_M_step v0 x5 h) fun x6 h1 =>
gk_let (v4 + (1 : Int32)) fun x7 =>
(f_M_variance_b5 fu) v0 v1 x6 x7 h1)
else
(f_M_variance_b41 v0 v1 v2 h))
def f_M_variance (a0 : Option Nat) (a1 : Int32) (h : gk_H) : Option (UInt64 × gk_H) :=
f_M_variance_b5 gk_F a0 a1 (0x0000000000000000) (0 : Int32) h
def f_M_figures_b331  (v0 : Option Nat) (v4 : UInt64) (h : gk_H) : Option (Unit × gk_H) :=
gk_cv h v0 7 (f_M_answerNumber v0 v4 h) fun _ h1 =>
some ((), h1)
def f_M_figures_b326  (v0 : Option Nat) (s0 : Option Nat) (s1 : Int32) (h : gk_H) : Option (Unit × gk_H) :=
gk_cv h s0 7 (f_M_variance s0 s1 h) fun x1 h1 =>
f_M_figures_b331 v0 x1 h1
def f_M_figures_b288 (b221 : Option Nat → Int32 → UInt64 → Int32 → gk_H → Option (Unit × gk_H)) (v0 : Option Nat) (v1 : Int32) (v6 : Int32) (s0 : UInt64) (h : gk_H) : Option (Unit × gk_H) :=
gk_let (v6 + (1 : Int32)) fun x1 =>
b221 v0 v1 s0 x1 h
def f_M_figures_b221  : Nat → Option Nat → Int32 → UInt64 → Int32 → gk_H → Option (Unit × gk_H)
  | 0 => fun _ _ _ _ _ => none
  | fu + 1 => fun v0 v1 v4 v6 h =>
((gk_get h v0 7 12).bind gk_asI).bind fun x1 =>
if x1 ≤ v6 then
(f_M_figures_b331 v0 v4 h)
else
(if v1 = (4 : Int32) then
(((gk_get h v0 7 13).bind gk_asR).bind fun x2 =>
((gk_ald h x2 6 v6).bind gk_asD).bind fun x3 =>
if 0 ≤ (Op.cmpValue (FP.dcmp x3 v4) .g) then
(f_M_figures_b288 (f_M_figures_b221 fu) v0 v1 v6 v4 h)
else
(((gk_get h v0 7 13).bind gk_asR).bind fun x4 =>
((gk_ald h x4 6 v6).bind gk_asD).bind fun x5 =>
f_M_figures_b288 (f_M_figures_b221 fu) v0 v1 v6 x5 h))
else
(((gk_get h v0 7 13).bind gk_asR).bind fun x6 =>
((gk_ald h x6 6 v6).bind gk_asD).bind fun x7 =>
if (Op.cmpValue (FP.dcmp x7 v4) .l) ≤ 0 then
(f_M_figures_b288 (f_M_figures_b221 fu) v0 v1 v6 v4 h)
else
(((gk_get h v0 7 13).bind gk_asR).bind fun x8 =>
((gk_ald h x8 6 v6).bind gk_asD).bind fun x9 =>
f_M_figures_b288 (f_M_figures_b221 fu) v0 v1 v6 x9 h)))
def f_M_figures_b216  (v0 : Option Nat) (v1 : Int32) (s0 : UInt64) (h : gk_H) : Option (Unit × gk_H) :=
f_M_figures_b221 gk_F v0 v1 s0 (1 : Int32) h
def f_M_figures_b165  (v0 : Option Nat) (v1 : Int32) (v4 : UInt64) (h : gk_H) : Option (Unit × gk_H) :=
((gk_get h v0 7 11).bind gk_asI).bind fun x1 =>
if x1 = 0 then
(if v1 = (3 : Int32) then
(((gk_get h v0 7 12).bind gk_asI).bind fun x2 =>
gk_cv h v0 7 (f_M_divide v0 v4 (FP.i2d x2) h) fun x3 h1 =>
f_M_figures_b331 v0 x3 h1)
else
(f_M_figures_b331 v0 v4 h))
else
(f_M_figures_b331 v0 v4 h)
def f_M_figures_b157 (b84 : Option Nat → Int32 → UInt64 → Int32 → gk_H → Option (Unit × gk_H)) (v0 : Option Nat) (v1 : Int32) (v6 : Int32) (s0 : UInt64) (h : gk_H) : Option (Unit × gk_H) :=
gk_let (v6 + (1 : Int32)) fun x1 =>
b84 v0 v1 s0 x1 h
def f_M_figures_b84  : Nat → Option Nat → Int32 → UInt64 → Int32 → gk_H → Option (Unit × gk_H)
  | 0 => fun _ _ _ _ _ => none
  | fu + 1 => fun v0 v1 v4 v6 h =>
((gk_get h v0 7 12).bind gk_asI).bind fun x1 =>
if x1 ≤ v6 then
(f_M_figures_b165 v0 v1 v4 h)
else
(((gk_get h v0 7 11).bind gk_asI).bind fun x2 =>
if x2 = 0 then
(if v1 = (1 : Int32) then
(((gk_get h v0 7 13).bind gk_asR).bind fun x3 =>
((gk_ald h x3 6 v6).bind gk_asD).bind fun x4 =>
gk_dop (FP.dmul v4 x4) fun x5 =>
gk_cv h v0 7 (f_M_step v0 x5 h) fun x6 h1 =>
f_M_figures_b157 (f_M_figures_b84 fu) v0 v1 v6 x6 h1)
else
(if v1 = (2 : Int32) then
(((gk_get h v0 7 13).bind gk_asR).bind fun x7 =>
((gk_ald h x7 6 v6).bind gk_asD).bind fun x8 =>
gk_cv h v0 7 (f_M_addSquare v0 v4 x8 h) fun x9 h2 =>
f_M_figures_b157 (f_M_figures_b84 fu) v0 v1 v6 x9 h2)
else
(((gk_get h v0 7 13).bind gk_asR).bind fun x10 =>
((gk_ald h x10 6 v6).bind gk_asD).bind fun x11 =>
gk_dop (FP.dadd v4 x11) fun x12 =>
gk_cv h v0 7 (f_M_step v0 x12 h) fun x13 h3 =>
f_M_figures_b157 (f_M_figures_b84 fu) v0 v1 v6 x13 h3)))
else
(f_M_figures_b165 v0 v1 v4 h))
def f_M_figures_b74  (v0 : Option Nat) (v1 : Int32) (s0 : UInt64) (h : gk_H) : Option (Unit × gk_H) :=
if (4 : Int32) ≤ v1 then
(if (6 : Int32) ≤ v1 then
(if v1 = (9 : Int32) then
(gk_cv h v0 7 (f_M_median v0 h) fun x1 h1 =>
f_M_figures_b331 v0 x1 h1)
else
(if v1 = (14 : Int32) then
(f_M_figures_b326 v0 v0 (1 : Int32) h)
else
(f_M_figures_b326 v0 v0 (0 : Int32) h)))
else
(((gk_get h v0 7 12).bind gk_asI).bind fun x2 =>
if x2 ≤ 0 then
(f_M_figures_b216 v0 v1 (0x0000000000000000) h)
else
(((gk_get h v0 7 13).bind gk_asR).bind fun x3 =>
((gk_ald h x3 6 (0 : Int32)).bind gk_asD).bind fun x4 =>
f_M_figures_b216 v0 v1 x4 h)))
else
(f_M_figures_b84 gk_F v0 v1 s0 (0 : Int32) h)
def f_M_figures_b73  (v0 : Option Nat) (v1 : Int32) (h : gk_H) : Option (Unit × gk_H) :=
f_M_figures_b74 v0 v1 (0x0000000000000000) h
def f_M_figures_b43  (v0 : Option Nat) (v1 : Int32) (v2 : Int32) (v3 : Int32) (h : gk_H) : Option (Unit × gk_H) :=
gk_cv h v0 7 (f_M_wantRows v0 v2 v3 h) fun _ h1 =>
((gk_get h1 v0 7 11).bind gk_asI).bind fun x1 =>
if x1 ≤ 0 then
(if v1 = (1 : Int32) then
(((gk_get h1 v0 7 12).bind gk_asI).bind fun x2 =>
if x2 ≤ 0 then
(f_M_figures_b73 v0 v1 h1)
else
(f_M_figures_b74 v0 v1 (0x3ff0000000000000) h1))
else
(f_M_figures_b73 v0 v1 h1))
else
(some ((), h1))
def f_M_figures_b24  (v0 : Option Nat) (v1 : Int32) (v2 : Int32) (v3 : Int32) (h : gk_H) : Option (Unit × gk_H) :=
if v1 ≤ (9 : Int32) then
(f_M_figures_b43 v0 v1 v2 v3 h)
else
(if (13 : Int32) ≤ v1 then
(f_M_figures_b43 v0 v1 v2 v3 h)
else
(gk_cv h v0 7 (f_M_ranks v0 v1 v2 h) fun _ h1 =>
some ((), h1)))
def f_M_figures (a0 : Option Nat) (a1 : Int32) (a2 : Int32) (a3 : Int32) (h : gk_H) : Option (Unit × gk_H) :=
if a1 ≤ (5 : Int32) then
(f_M_figures_b24 a0 a1 a2 a3 h)
else
(if (9 : Int32) ≤ a1 then
(f_M_figures_b24 a0 a1 a2 a3 h)
else
(gk_cv h a0 7 (f_M_howMany a0 a1 a2 a3 h) fun x1 h1 =>
gk_cv h1 a0 7 (f_M_answerNumber a0 (FP.i2d x1) h1) fun _ h2 =>
some ((), h2)))
def f_M_products_b254  (v0 : Option Nat) (v3 : UInt64) (h : gk_H) : Option (Unit × gk_H) :=
gk_cv h v0 7 (f_M_answerNumber v0 v3 h) fun _ h1 =>
some ((), h1)
def f_M_products_b248 (b137 : Option Nat → Int32 → Int32 → UInt64 → Int32 → gk_H → Option (Unit × gk_H)) (v0 : Option Nat) (v1 : Int32) (v2 : Int32) (v3 : UInt64) (v5 : Int32) (h : gk_H) : Option (Unit × gk_H) :=
gk_let (v5 + (1 : Int32)) fun x1 =>
b137 v0 v1 v2 v3 x1 h
def f_M_products_b232 (b137 : Option Nat → Int32 → Int32 → UInt64 → Int32 → gk_H → Option (Unit × gk_H)) (v0 : Option Nat) (v1 : Int32) (v2 : Int32) (v3 : UInt64) (v5 : Int32) (v6 : UInt64) (h : gk_H) : Option (Unit × gk_H) :=
((gk_get h v0 7 11).bind gk_asI).bind fun x1 =>
if x1 = 0 then
(gk_dop (FP.dadd v3 v6) fun x2 =>
gk_cv h v0 7 (f_M_step v0 x2 h) fun x3 h1 =>
f_M_products_b248 b137 v0 v1 v2 x3 v5 h1)
else
(f_M_products_b248 b137 v0 v1 v2 v3 v5 h)
def f_M_products_b220 (b137 : Option Nat → Int32 → Int32 → UInt64 → Int32 → gk_H → Option (Unit × gk_H)) (b168 : Option Nat → Int32 → Int32 → UInt64 → Int32 → UInt64 → Int32 → gk_H → Option (Unit × gk_H)) (v0 : Option Nat) (v1 : Int32) (v2 : Int32) (v3 : UInt64) (v5 : Int32) (v8 : Int32) (s0 : Option Nat) (s1 : UInt64) (s2 : UInt64) (h : gk_H) : Option (Unit × gk_H) :=
gk_dop (FP.dmul s1 s2) fun x1 =>
gk_cv h s0 7 (f_M_step s0 x1 h) fun x2 h1 =>
gk_let (v8 + (1 : Int32)) fun x3 =>
b168 v0 v1 v2 v3 v5 x2 x3 h1
def f_M_products_b168 (b137 : Option Nat → Int32 → Int32 → UInt64 → Int32 → gk_H → Option (Unit × gk_H)) : Nat → Option Nat → Int32 → Int32 → UInt64 → Int32 → UInt64 → Int32 → gk_H → Option (Unit × gk_H)
  | 0 => fun _ _ _ _ _ _ _ _ => none
  | fu + 1 => fun v0 v1 v2 v3 v5 v6 v8 h =>
if (v1 + v2) ≤ v8 then
(f_M_products_b232 b137 v0 v1 v2 v3 v5 v6 h)
else
(((gk_get h v0 7 11).bind gk_asI).bind fun x1 =>
if x1 = 0 then
(((gk_get h v0 7 7).bind gk_asR).bind fun x2 =>
((gk_ald h x2 1 (((16 : Int32) * v8) + v5)).bind gk_asI).bind fun x3 =>
if x3 = (1 : Int32) then
(((gk_get h v0 7 8).bind gk_asR).bind fun x4 =>
((gk_ald h x4 6 (((16 : Int32) * v8) + v5)).bind gk_asD).bind fun x5 =>
f_M_products_b220 b137 (f_M_products_b168 b137 fu) v0 v1 v2 v3 v5 v8 v0 v6 x5 h)
else
(f_M_products_b220 b137 (f_M_products_b168 b137 fu) v0 v1 v2 v3 v5 v8 v0 v6 (0x0000000000000000) h))
else
(f_M_products_b232 b137 v0 v1 v2 v3 v5 v6 h))
def f_M_products_b137  : Nat → Option Nat → Int32 → Int32 → UInt64 → Int32 → gk_H → Option (Unit × gk_H)
  | 0 => fun _ _ _ _ _ _ => none
  | fu + 1 => fun v0 v1 v2 v3 v5 h =>
((gk_get h v0 7 5).bind gk_asR).bind fun x1 =>
((gk_ald h x1 1 v1).bind gk_asI).bind fun x2 =>
((gk_get h v0 7 6).bind gk_asR).bind fun x3 =>
((gk_ald h x3 1 v1).bind gk_asI).bind fun x4 =>
if (x2 * x4) ≤ v5 then
(f_M_products_b254 v0 v3 h)
else
(((gk_get h v0 7 11).bind gk_asI).bind fun x5 =>
if x5 = 0 then
(f_M_products_b168 (f_M_products_b137 fu) gk_F v0 v1 v2 v3 v5 (0x3ff0000000000000) v1 h)
else
(f_M_products_b254 v0 v3 h))
def f_M_products_b126 (b84 : Option Nat → Int32 → Int32 → Int32 → gk_H → Option (Unit × gk_H)) (v0 : Option Nat) (v1 : Int32) (v2 : Int32) (v3 : Int32) (h : gk_H) : Option (Unit × gk_H) :=
gk_let (v3 + (1 : Int32)) fun x1 =>
b84 v0 v1 v2 x1 h
def f_M_products_b121 (b84 : Option Nat → Int32 → Int32 → Int32 → gk_H → Option (Unit × gk_H)) (v0 : Option Nat) (v1 : Int32) (v2 : Int32) (v3 : Int32) (h : gk_H) : Option (Unit × gk_H) :=
gk_cv h v0 7 (f_M_fail v0 (3 : Int32) h) fun _ h1 =>
f_M_products_b126 b84 v0 v1 v2 v3 h1
def f_M_products_b84  : Nat → Option Nat → Int32 → Int32 → Int32 → gk_H → Option (Unit × gk_H)
  | 0 => fun _ _ _ _ _ => none
  | fu + 1 => fun v0 v1 v2 v3 h =>
if (v1 + v2) ≤ v3 then
(f_M_products_b137 gk_F v0 v1 v2 (0x0000000000000000) (0 : Int32) h)
else
(((gk_get h v0 7 5).bind gk_asR).bind fun x1 =>
((gk_ald h x1 1 v3).bind gk_asI).bind fun x2 =>
((gk_get h v0 7 5).bind gk_asR).bind fun x3 =>
((gk_ald h x3 1 v1).bind gk_asI).bind fun x4 =>
if x2 = x4 then
(((gk_get h v0 7 6).bind gk_asR).bind fun x5 =>
((gk_ald h x5 1 v3).bind gk_asI).bind fun x6 =>
((gk_get h v0 7 6).bind gk_asR).bind fun x7 =>
((gk_ald h x7 1 v1).bind gk_asI).bind fun x8 =>
if x6 = x8 then
(f_M_products_b126 (f_M_products_b84 fu) v0 v1 v2 v3 h)
else
(f_M_products_b121 (f_M_products_b84 fu) v0 v1 v2 v3 h))
else
(f_M_products_b121 (f_M_products_b84 fu) v0 v1 v2 v3 h))
def f_M_products_b68 (b7 : Option Nat → Int32 → Int32 → Int32 → gk_H → Option (Unit × gk_H)) (b17 : Option Nat → Int32 → Int32 → Int32 → Int32 → gk_H → Option (Unit × gk_H)) (v0 : Option Nat) (v1 : Int32) (v2 : Int32) (v3 : Int32) (v4 : Int32) (h : gk_H) : Option (Unit × gk_H) :=
gk_let (v4 + (1 : Int32)) fun x1 =>
b17 v0 v1 v2 v3 x1 h
def f_M_products_b17 (b7 : Option Nat → Int32 → Int32 → Int32 → gk_H → Option (Unit × gk_H)) : Nat → Option Nat → Int32 → Int32 → Int32 → Int32 → gk_H → Option (Unit × gk_H)
  | 0 => fun _ _ _ _ _ _ => none
  | fu + 1 => fun v0 v1 v2 v3 v4 h =>
((gk_get h v0 7 5).bind gk_asR).bind fun x1 =>
((gk_ald h x1 1 v3).bind gk_asI).bind fun x2 =>
((gk_get h v0 7 6).bind gk_asR).bind fun x3 =>
((gk_ald h x3 1 v3).bind gk_asI).bind fun x4 =>
if (x2 * x4) ≤ v4 then
(gk_let (v3 + (1 : Int32)) fun x5 =>
b7 v0 v1 v2 x5 h)
else
(((gk_get h v0 7 7).bind gk_asR).bind fun x6 =>
((gk_ald h x6 1 (((16 : Int32) * v3) + v4)).bind gk_asI).bind fun x7 =>
if x7 = (4 : Int32) then
(((gk_get h v0 7 8).bind gk_asR).bind fun x8 =>
((gk_ald h x8 6 (((16 : Int32) * v3) + v4)).bind gk_asD).bind fun x9 =>
gk_cv h v0 7 (f_M_fail v0 (FP.d2i x9) h) fun _ h1 =>
f_M_products_b68 b7 (f_M_products_b17 b7 fu) v0 v1 v2 v3 v4 h1)
else
(f_M_products_b68 b7 (f_M_products_b17 b7 fu) v0 v1 v2 v3 v4 h))
def f_M_products_b7  : Nat → Option Nat → Int32 → Int32 → Int32 → gk_H → Option (Unit × gk_H)
  | 0 => fun _ _ _ _ _ => none
  | fu + 1 => fun v0 v1 v2 v3 h =>
if (v1 + v2) ≤ v3 then
(gk_let (v1 + (1 : Int32)) fun x1 =>
f_M_products_b84 gk_F v0 v1 v2 x1 h)
else
(f_M_products_b17 (f_M_products_b7 fu) gk_F v0 v1 v2 v3 (0 : Int32) h)
def f_M_products (a0 : Option Nat) (a1 : Int32) (a2 : Int32) (h : gk_H) : Option (Unit × gk_H) :=
(gk_set h a0 7 12 (.int (0 : Int32))).bind fun h1 =>
f_M_products_b7 gk_F a0 a1 a2 a1 h1
def f_M_condition_b277   (h : gk_H) : Option (Unit × gk_H) :=
some ((), h)
def f_M_condition_b229  (v0 : Option Nat) (v2 : Int32) (s0 : Int32) (h : gk_H) : Option (Unit × gk_H) :=
(gk_set h v0 7 20 (.int s0)).bind fun h1 =>
(gk_set h1 v0 7 21 (.int (v2 - s0))).bind fun h2 =>
((gk_get h2 v0 7 15).bind gk_asR).bind fun x1 =>
((gk_get h2 v0 7 20).bind gk_asI).bind fun x2 =>
((gk_get h2 v0 7 21).bind gk_asI).bind fun x3 =>
gk_cv h2 v0 7 (f_M_isNumeral v0 x1 x2 x3 h2) fun x4 h3 =>
if x4 = 0 then
(f_M_condition_b277 h3)
else
((gk_set h3 v0 7 18 (.int (1 : Int32))).bind fun h4 =>
((gk_get h4 v0 7 16).bind gk_asD).bind fun x5 =>
(gk_set h4 v0 7 19 (.double x5)).bind fun h5 =>
f_M_condition_b277 h5)
def f_M_condition_b206  (v0 : Option Nat) (v2 : Int32) (h : gk_H) : Option (Unit × gk_H) :=
f_M_condition_b229 v0 v2 (2 : Int32) h
def f_M_condition_b224  (v0 : Option Nat) (v2 : Int32) (h : gk_H) : Option (Unit × gk_H) :=
f_M_condition_b229 v0 v2 (1 : Int32) h
def f_M_condition_b187  (v0 : Option Nat) (v2 : Int32) (v3 : Int32) (s0 : Option Nat) (s1 : Int32) (h : gk_H) : Option (Unit × gk_H) :=
(gk_set h s0 7 17 (.int s1)).bind fun h1 =>
((gk_get h1 v0 7 17).bind gk_asI).bind fun x1 =>
if x1 = (1 : Int32) then
(f_M_condition_b206 v0 v2 h1)
else
(((gk_get h1 v0 7 17).bind gk_asI).bind fun x2 =>
if x2 ≤ (3 : Int32) then
(((gk_get h1 v0 7 17).bind gk_asI).bind fun x3 =>
if (1 : Int32) < x3 then
(f_M_condition_b224 v0 v2 h1)
else
(if v3 = (61 : Int32) then
(f_M_condition_b224 v0 v2 h1)
else
(f_M_condition_b229 v0 v2 (0 : Int32) h1)))
else
(f_M_condition_b206 v0 v2 h1))
def f_M_condition_b130  (v0 : Option Nat) (v2 : Int32) (v3 : Int32) (s0 : Int32) (h : gk_H) : Option (Unit × gk_H) :=
if v3 = (60 : Int32) then
(if s0 = (62 : Int32) then
(f_M_condition_b187 v0 v2 v3 v0 (1 : Int32) h)
else
(if s0 = (61 : Int32) then
(f_M_condition_b187 v0 v2 v3 v0 (4 : Int32) h)
else
(f_M_condition_b187 v0 v2 v3 v0 (2 : Int32) h)))
else
(if v3 = (62 : Int32) then
(if s0 = (61 : Int32) then
(f_M_condition_b187 v0 v2 v3 v0 (5 : Int32) h)
else
(f_M_condition_b187 v0 v2 v3 v0 (3 : Int32) h))
else
(f_M_condition_b187 v0 v2 v3 v0 (0 : Int32) h))
def f_M_condition_b114  (v0 : Option Nat) (v2 : Int32) (s0 : Int32) (h : gk_H) : Option (Unit × gk_H) :=
if v2 ≤ (1 : Int32) then
(f_M_condition_b130 v0 v2 s0 (0 : Int32) h)
else
(((gk_get h v0 7 15).bind gk_asR).bind fun x1 =>
((gk_ald h x1 3 (1 : Int32)).bind gk_asI).bind fun x2 =>
f_M_condition_b130 v0 v2 s0 x2 h)
def f_M_condition_b71  : Nat → Option Nat → Int32 → Int32 → Int32 → gk_H → Option (Unit × gk_H)
  | 0 => fun _ _ _ _ _ => none
  | fu + 1 => fun v0 v1 v2 v3 h =>
if v2 ≤ v3 then
(if v2 ≤ 0 then
(f_M_condition_b114 v0 v2 (0 : Int32) h)
else
(((gk_get h v0 7 15).bind gk_asR).bind fun x1 =>
((gk_ald h x1 3 (0 : Int32)).bind gk_asI).bind fun x2 =>
f_M_condition_b114 v0 v2 x2 h))
else
(((gk_get h v0 7 15).bind gk_asR).bind fun x3 =>
((gk_get h v0 7 10).bind gk_asR).bind fun x4 =>
((gk_ald h x4 3 (((256 : Int32) * v1) + v3)).bind gk_asI).bind fun x5 =>
(gk_ast h x3 3 v3 (.int x5)).bind fun h1 =>
gk_let (v3 + (1 : Int32)) fun x6 =>
(f_M_condition_b71 fu) v0 v1 v2 x6 h1)
def f_M_condition_b48  (v0 : Option Nat) (v1 : Int32) (s0 : Option Nat) (s1 : UInt64) (h : gk_H) : Option (Unit × gk_H) :=
(gk_set h s0 7 19 (.double s1)).bind fun h1 =>
((gk_get h1 v0 7 7).bind gk_asR).bind fun x1 =>
((gk_ald h1 x1 1 v1).bind gk_asI).bind fun x2 =>
if x2 = (2 : Int32) then
(((gk_get h1 v0 7 9).bind gk_asR).bind fun x3 =>
((gk_ald h1 x3 1 v1).bind gk_asI).bind fun x4 =>
f_M_condition_b71 gk_F v0 v1 x4 (0 : Int32) h1)
else
(some ((), h1))
def f_M_condition_b25  (v0 : Option Nat) (v1 : Int32) (s0 : Option Nat) (s1 : Int32) (h : gk_H) : Option (Unit × gk_H) :=
(gk_set h s0 7 18 (.int s1)).bind fun h1 =>
((gk_get h1 v0 7 7).bind gk_asR).bind fun x1 =>
((gk_ald h1 x1 1 v1).bind gk_asI).bind fun x2 =>
if x2 = 0 then
(f_M_condition_b48 v0 v1 v0 (0x0000000000000000) h1)
else
(((gk_get h1 v0 7 8).bind gk_asR).bind fun x3 =>
((gk_ald h1 x3 6 v1).bind gk_asD).bind fun x4 =>
f_M_condition_b48 v0 v1 v0 x4 h1)
def f_M_condition (a0 : Option Nat) (a1 : Int32) (h : gk_H) : Option (Unit × gk_H) :=
(gk_set h a0 7 17 (.int (0 : Int32))).bind fun h1 =>
((gk_get h1 a0 7 7).bind gk_asR).bind fun x1 =>
((gk_ald h1 x1 1 a1).bind gk_asI).bind fun x2 =>
if x2 = 0 then
(f_M_condition_b25 a0 a1 a0 (1 : Int32) h1)
else
(((gk_get h1 a0 7 7).bind gk_asR).bind fun x3 =>
((gk_ald h1 x3 1 a1).bind gk_asI).bind fun x4 =>
f_M_condition_b25 a0 a1 a0 x4 h1)
def f_M_isLike_b252   (h : gk_H) : Option (Int32 × gk_H) :=
if narrow .boolean (.int (0 : Int32)) = .int (0 : Int32) then some ((0 : Int32), h) else none
def f_M_isLike_b267 (b25 : Option Nat → Option Nat → Int32 → Int32 → Int32 → Int32 → Int32 → Int32 → Int32 → gk_H → Option (Int32 × gk_H)) (v1 : Option Nat) (v4 : Option Nat) (v7 : Int32) (v8 : Int32) (v9 : Int32) (v10 : Int32) (v11 : Int32) (v12 : Int32) (v13 : Int32) (h : gk_H) : Option (Int32 × gk_H) :=
b25 v1 v4 v7 v8 v9 v10 v11 v12 v13 h
def f_M_isLike_b240 (b25 : Option Nat → Option Nat → Int32 → Int32 → Int32 → Int32 → Int32 → Int32 → Int32 → gk_H → Option (Int32 × gk_H)) (v1 : Option Nat) (v4 : Option Nat) (v7 : Int32) (v8 : Int32) (v9 : Int32) (v12 : Int32) (v13 : Int32) (h : gk_H) : Option (Int32 × gk_H) :=
if v12 < 0 then
(f_M_isLike_b252 h)
else
(if v13 < v8 then
(gk_let (v13 + (1 : Int32)) fun x1 =>
gk_let (v12 + (1 : Int32)) fun x2 =>
f_M_isLike_b267 b25 v1 v4 v7 v8 v9 x1 x2 v12 x1 h)
else
(f_M_isLike_b252 h))
def f_M_isLike_b232 (b25 : Option Nat → Option Nat → Int32 → Int32 → Int32 → Int32 → Int32 → Int32 → Int32 → gk_H → Option (Int32 × gk_H)) (v1 : Option Nat) (v4 : Option Nat) (v7 : Int32) (v8 : Int32) (v9 : Int32) (v10 : Int32) (v12 : Int32) (v13 : Int32) (s0 : Int32) (h : gk_H) : Option (Int32 × gk_H) :=
gk_let (v10 + (1 : Int32)) fun x1 =>
f_M_isLike_b267 b25 v1 v4 v7 v8 v9 x1 s0 v12 v13 h
def f_M_isLike_b216 (b25 : Option Nat → Option Nat → Int32 → Int32 → Int32 → Int32 → Int32 → Int32 → Int32 → gk_H → Option (Int32 × gk_H)) (v1 : Option Nat) (v4 : Option Nat) (v7 : Int32) (v8 : Int32) (v9 : Int32) (v10 : Int32) (v11 : Int32) (v12 : Int32) (v13 : Int32) (v15 : Int32) (h : gk_H) : Option (Int32 × gk_H) :=
if v15 = 0 then
(f_M_isLike_b232 b25 v1 v4 v7 v8 v9 v10 v12 v13 (v11 + (1 : Int32)) h)
else
(f_M_isLike_b232 b25 v1 v4 v7 v8 v9 v10 v12 v13 (v11 + (2 : Int32)) h)
def f_M_isLike_b209 (b25 : Option Nat → Option Nat → Int32 → Int32 → Int32 → Int32 → Int32 → Int32 → Int32 → gk_H → Option (Int32 × gk_H)) (v1 : Option Nat) (v4 : Option Nat) (v7 : Int32) (v8 : Int32) (v9 : Int32) (v10 : Int32) (v11 : Int32) (v12 : Int32) (v13 : Int32) (v15 : Int32) (s0 : Int32) (s1 : Option Nat) (s2 : Int32) (h : gk_H) : Option (Int32 × gk_H) :=
((gk_ald h s1 3 s2).bind gk_asI).bind fun x1 =>
gk_ca (f_M_great x1 h) fun x2 h1 =>
if s0 = x2 then
(f_M_isLike_b216 b25 v1 v4 v7 v8 v9 v10 v11 v12 v13 v15 h1)
else
(f_M_isLike_b240 b25 v1 v4 v7 v8 v9 v12 v13 h1)
def f_M_isLike_b186 (b25 : Option Nat → Option Nat → Int32 → Int32 → Int32 → Int32 → Int32 → Int32 → Int32 → gk_H → Option (Int32 × gk_H)) (v1 : Option Nat) (v4 : Option Nat) (v7 : Int32) (v8 : Int32) (v9 : Int32) (v10 : Int32) (v11 : Int32) (v12 : Int32) (v13 : Int32) (v15 : Int32) (h : gk_H) : Option (Int32 × gk_H) :=
((gk_ald h v1 3 v10).bind gk_asI).bind fun x1 =>
gk_ca (f_M_great x1 h) fun x2 h1 =>
if v15 = 0 then
(f_M_isLike_b209 b25 v1 v4 v7 v8 v9 v10 v11 v12 v13 v15 x2 v4 v11 h1)
else
(f_M_isLike_b209 b25 v1 v4 v7 v8 v9 v10 v11 v12 v13 v15 x2 v4 (v11 + (1 : Int32)) h1)
def f_M_isLike_b159 (b25 : Option Nat → Option Nat → Int32 → Int32 → Int32 → Int32 → Int32 → Int32 → Int32 → gk_H → Option (Int32 × gk_H)) (v1 : Option Nat) (v4 : Option Nat) (v7 : Int32) (v8 : Int32) (v9 : Int32) (v10 : Int32) (v11 : Int32) (v12 : Int32) (v13 : Int32) (v14 : Int32) (v15 : Int32) (h : gk_H) : Option (Int32 × gk_H) :=
if v14 = 0 then
(if v8 ≤ v10 then
(f_M_isLike_b240 b25 v1 v4 v7 v8 v9 v12 v13 h)
else
(if v15 = 0 then
(((gk_ald h v4 3 v11).bind gk_asI).bind fun x1 =>
if x1 = (63 : Int32) then
(f_M_isLike_b216 b25 v1 v4 v7 v8 v9 v10 v11 v12 v13 v15 h)
else
(f_M_isLike_b186 b25 v1 v4 v7 v8 v9 v10 v11 v12 v13 v15 h))
else
(f_M_isLike_b186 b25 v1 v4 v7 v8 v9 v10 v11 v12 v13 v15 h)))
else
(f_M_isLike_b240 b25 v1 v4 v7 v8 v9 v12 v13 h)
def f_M_isLike_b123 (b25 : Option Nat → Option Nat → Int32 → Int32 → Int32 → Int32 → Int32 → Int32 → Int32 → gk_H → Option (Int32 × gk_H)) (v1 : Option Nat) (v4 : Option Nat) (v7 : Int32) (v8 : Int32) (v9 : Int32) (v10 : Int32) (v11 : Int32) (v12 : Int32) (v13 : Int32) (v14 : Int32) (s0 : Int32) (h : gk_H) : Option (Int32 × gk_H) :=
if v14 = 0 then
(if s0 = 0 then
(((gk_ald h v4 3 v11).bind gk_asI).bind fun x1 =>
if x1 = (42 : Int32) then
(gk_let (v11 + (1 : Int32)) fun x2 =>
f_M_isLike_b267 b25 v1 v4 v7 v8 v9 v10 x2 v11 v10 h)
else
(f_M_isLike_b159 b25 v1 v4 v7 v8 v9 v10 v11 v12 v13 v14 s0 h))
else
(f_M_isLike_b159 b25 v1 v4 v7 v8 v9 v10 v11 v12 v13 v14 s0 h))
else
(f_M_isLike_b159 b25 v1 v4 v7 v8 v9 v10 v11 v12 v13 v14 s0 h)
def f_M_isLike_b122 (b25 : Option Nat → Option Nat → Int32 → Int32 → Int32 → Int32 → Int32 → Int32 → Int32 → gk_H → Option (Int32 × gk_H)) (v1 : Option Nat) (v4 : Option Nat) (v7 : Int32) (v8 : Int32) (v9 : Int32) (v10 : Int32) (v11 : Int32) (v12 : Int32) (v13 : Int32) (v14 : Int32) (h : gk_H) : Option (Int32 × gk_H) :=
f_M_isLike_b123 b25 v1 v4 v7 v8 v9 v10 v11 v12 v13 v14 (0 : Int32) h
def f_M_isLike_b118 (b25 : Option Nat → Option Nat → Int32 → Int32 → Int32 → Int32 → Int32 → Int32 → Int32 → gk_H → Option (Int32 × gk_H)) (v1 : Option Nat) (v4 : Option Nat) (v7 : Int32) (v8 : Int32) (v9 : Int32) (v10 : Int32) (v11 : Int32) (v12 : Int32) (v13 : Int32) (v14 : Int32) (h : gk_H) : Option (Int32 × gk_H) :=
f_M_isLike_b123 b25 v1 v4 v7 v8 v9 v10 v11 v12 v13 v14 (1 : Int32) h
def f_M_isLike_b58 (b25 : Option Nat → Option Nat → Int32 → Int32 → Int32 → Int32 → Int32 → Int32 → Int32 → gk_H → Option (Int32 × gk_H)) (v1 : Option Nat) (v4 : Option Nat) (v7 : Int32) (v8 : Int32) (v9 : Int32) (v10 : Int32) (v11 : Int32) (v12 : Int32) (v13 : Int32) (v14 : Int32) (h : gk_H) : Option (Int32 × gk_H) :=
if v14 = 0 then
(((gk_ald h v4 3 v11).bind gk_asI).bind fun x1 =>
if x1 = (126 : Int32) then
(if v9 ≤ (v11 + (1 : Int32)) then
(f_M_isLike_b122 b25 v1 v4 v7 v8 v9 v10 v11 v12 v13 v14 h)
else
(((gk_ald h v4 3 (v11 + (1 : Int32))).bind gk_asI).bind fun x2 =>
if x2 = (63 : Int32) then
(f_M_isLike_b118 b25 v1 v4 v7 v8 v9 v10 v11 v12 v13 v14 h)
else
(((gk_ald h v4 3 (v11 + (1 : Int32))).bind gk_asI).bind fun x3 =>
if x3 = (42 : Int32) then
(f_M_isLike_b118 b25 v1 v4 v7 v8 v9 v10 v11 v12 v13 v14 h)
else
(((gk_ald h v4 3 (v11 + (1 : Int32))).bind gk_asI).bind fun x4 =>
if x4 = (126 : Int32) then
(f_M_isLike_b118 b25 v1 v4 v7 v8 v9 v10 v11 v12 v13 v14 h)
else
(f_M_isLike_b122 b25 v1 v4 v7 v8 v9 v10 v11 v12 v13 v14 h)))))
else
(f_M_isLike_b122 b25 v1 v4 v7 v8 v9 v10 v11 v12 v13 v14 h))
else
(f_M_isLike_b122 b25 v1 v4 v7 v8 v9 v10 v11 v12 v13 v14 h)
def f_M_isLike_b56   (h : gk_H) : Option (Int32 × gk_H) :=
if narrow .boolean (.int (1 : Int32)) = .int (1 : Int32) then some ((1 : Int32), h) else none
def f_M_isLike_b37 (b25 : Option Nat → Option Nat → Int32 → Int32 → Int32 → Int32 → Int32 → Int32 → Int32 → gk_H → Option (Int32 × gk_H)) (v1 : Option Nat) (v4 : Option Nat) (v7 : Int32) (v8 : Int32) (v9 : Int32) (v10 : Int32) (v11 : Int32) (v12 : Int32) (v13 : Int32) (s0 : Int32) (h : gk_H) : Option (Int32 × gk_H) :=
if s0 = 0 then
(f_M_isLike_b58 b25 v1 v4 v7 v8 v9 v10 v11 v12 v13 s0 h)
else
(if v7 = 0 then
(if v10 = v8 then
(f_M_isLike_b56 h)
else
(f_M_isLike_b58 b25 v1 v4 v7 v8 v9 v10 v11 v12 v13 s0 h))
else
(f_M_isLike_b56 h))
def f_M_isLike_b25  : Nat → Option Nat → Option Nat → Int32 → Int32 → Int32 → Int32 → Int32 → Int32 → Int32 → gk_H → Option (Int32 × gk_H)
  | 0 => fun _ _ _ _ _ _ _ _ _ _ => none
  | fu + 1 => fun v1 v4 v7 v8 v9 v10 v11 v12 v13 h =>
if v11 = v9 then
(f_M_isLike_b37 (f_M_isLike_b25 fu) v1 v4 v7 v8 v9 v10 v11 v12 v13 (1 : Int32) h)
else
(f_M_isLike_b37 (f_M_isLike_b25 fu) v1 v4 v7 v8 v9 v10 v11 v12 v13 (0 : Int32) h)
def f_M_isLike (a0 : Option Nat) (a1 : Option Nat) (a2 : Int32) (a3 : Int32) (a4 : Option Nat) (a5 : Int32) (a6 : Int32) (a7 : Int32) (h : gk_H) : Option (Int32 × gk_H) :=
gk_let (a2 + a3) fun x1 =>
gk_let (a5 + a6) fun x2 =>
f_M_isLike_b25 gk_F a1 a4 a7 x1 x2 a2 a5 (-1 : Int32) a2 h
def f_M_meets_b266  (s0 : Int32) (h : gk_H) : Option (Int32 × gk_H) :=
if narrow .boolean (.int s0) = .int s0 then some (s0, h) else none
def f_M_meets_b261   (h : gk_H) : Option (Int32 × gk_H) :=
f_M_meets_b266 (1 : Int32) h
def f_M_meets_b265   (h : gk_H) : Option (Int32 × gk_H) :=
f_M_meets_b266 (0 : Int32) h
def f_M_meets_b220  (v0 : Option Nat) (v1 : Int32) (s0 : Int32) (h : gk_H) : Option (Int32 × gk_H) :=
((gk_get h v0 7 17).bind gk_asI).bind fun x1 =>
if x1 = (1 : Int32) then
(if s0 = 0 then
(f_M_meets_b266 (1 : Int32) h)
else
(f_M_meets_b266 (0 : Int32) h))
else
(if s0 = 0 then
(((gk_get h v0 7 21).bind gk_asI).bind fun x2 =>
if x2 = 0 then
(((gk_get h v0 7 7).bind gk_asR).bind fun x3 =>
((gk_ald h x3 1 v1).bind gk_asI).bind fun x4 =>
if x4 = 0 then
(f_M_meets_b261 h)
else
(f_M_meets_b265 h))
else
(f_M_meets_b265 h))
else
(f_M_meets_b261 h))
def f_M_meets_b219  (v0 : Option Nat) (v1 : Int32) (h : gk_H) : Option (Int32 × gk_H) :=
f_M_meets_b220 v0 v1 (0 : Int32) h
def f_M_meets_b169  (s0 : Int32) (h : gk_H) : Option (Int32 × gk_H) :=
if narrow .boolean (.int s0) = .int s0 then some (s0, h) else none
def f_M_meets_b168   (h : gk_H) : Option (Int32 × gk_H) :=
f_M_meets_b169 (0 : Int32) h
def f_M_meets_b104  (s0 : Int32) (h : gk_H) : Option (Int32 × gk_H) :=
if narrow .boolean (.int s0) = .int s0 then some (s0, h) else none
def f_M_meets_b103   (h : gk_H) : Option (Int32 × gk_H) :=
f_M_meets_b104 (0 : Int32) h
def f_M_meets_b66  (s0 : Int32) (h : gk_H) : Option (Int32 × gk_H) :=
if narrow .boolean (.int s0) = .int s0 then some (s0, h) else none
def f_M_meets (a0 : Option Nat) (a1 : Int32) (h : gk_H) : Option (Int32 × gk_H) :=
((gk_get h a0 7 7).bind gk_asR).bind fun x1 =>
((gk_ald h x1 1 a1).bind gk_asI).bind fun x2 =>
if x2 = (4 : Int32) then
(if narrow .boolean (.int (0 : Int32)) = .int (0 : Int32) then some ((0 : Int32), h) else none)
else
(((gk_get h a0 7 18).bind gk_asI).bind fun x3 =>
if x3 = (1 : Int32) then
(((gk_get h a0 7 7).bind gk_asR).bind fun x4 =>
((gk_ald h x4 1 a1).bind gk_asI).bind fun x5 =>
if x5 = (1 : Int32) then
(((gk_get h a0 7 17).bind gk_asI).bind fun x6 =>
((gk_get h a0 7 8).bind gk_asR).bind fun x7 =>
((gk_ald h x7 6 a1).bind gk_asD).bind fun x8 =>
((gk_get h a0 7 19).bind gk_asD).bind fun x9 =>
gk_ca (f_M_compareNumbers x8 x9 h) fun x10 h1 =>
gk_ca (f_M_stands x6 x10 h1) fun x11 h2 =>
f_M_meets_b66 x11 h2)
else
(((gk_get h a0 7 17).bind gk_asI).bind fun x12 =>
if x12 = (1 : Int32) then
(f_M_meets_b66 (1 : Int32) h)
else
(f_M_meets_b66 (0 : Int32) h)))
else
(((gk_get h a0 7 18).bind gk_asI).bind fun x13 =>
if x13 = (3 : Int32) then
(((gk_get h a0 7 7).bind gk_asR).bind fun x14 =>
((gk_ald h x14 1 a1).bind gk_asI).bind fun x15 =>
if x15 = (3 : Int32) then
(((gk_get h a0 7 8).bind gk_asR).bind fun x16 =>
((gk_ald h x16 6 a1).bind gk_asD).bind fun x17 =>
((gk_get h a0 7 19).bind gk_asD).bind fun x18 =>
if (Op.cmpValue (FP.dcmp x17 x18) .l) = 0 then
(f_M_meets_b104 (1 : Int32) h)
else
(f_M_meets_b103 h))
else
(f_M_meets_b103 h))
else
(((gk_get h a0 7 17).bind gk_asI).bind fun x19 =>
if x19 ≤ (1 : Int32) then
(((gk_get h a0 7 7).bind gk_asR).bind fun x20 =>
((gk_ald h x20 1 a1).bind gk_asI).bind fun x21 =>
if x21 = (2 : Int32) then
(((gk_get h a0 7 10).bind gk_asR).bind fun x22 =>
((gk_get h a0 7 9).bind gk_asR).bind fun x23 =>
((gk_ald h x23 1 a1).bind gk_asI).bind fun x24 =>
((gk_get h a0 7 15).bind gk_asR).bind fun x25 =>
((gk_get h a0 7 20).bind gk_asI).bind fun x26 =>
((gk_get h a0 7 21).bind gk_asI).bind fun x27 =>
gk_cv h a0 7 (f_M_isLike a0 x22 ((256 : Int32) * a1) x24 x25 x26 x27 (0 : Int32) h) fun x28 h3 =>
if x28 = 0 then
(f_M_meets_b219 a0 a1 h3)
else
(f_M_meets_b220 a0 a1 (1 : Int32) h3))
else
(f_M_meets_b219 a0 a1 h))
else
(((gk_get h a0 7 7).bind gk_asR).bind fun x29 =>
((gk_ald h x29 1 a1).bind gk_asI).bind fun x30 =>
if x30 = (2 : Int32) then
(((gk_get h a0 7 17).bind gk_asI).bind fun x31 =>
((gk_get h a0 7 10).bind gk_asR).bind fun x32 =>
((gk_get h a0 7 9).bind gk_asR).bind fun x33 =>
((gk_ald h x33 1 a1).bind gk_asI).bind fun x34 =>
((gk_get h a0 7 15).bind gk_asR).bind fun x35 =>
((gk_get h a0 7 20).bind gk_asI).bind fun x36 =>
((gk_get h a0 7 21).bind gk_asI).bind fun x37 =>
gk_cv h a0 7 (f_M_compareWords a0 x32 ((256 : Int32) * a1) x34 x35 x36 x37 h) fun x38 h4 =>
gk_ca (f_M_stands x31 x38 h4) fun x39 h5 =>
if x39 = 0 then
(f_M_meets_b168 h5)
else
(f_M_meets_b169 (1 : Int32) h5))
else
(f_M_meets_b168 h)))))
def f_M_conditions_b76  (v0 : Option Nat) (h : gk_H) : Option (Unit × gk_H) :=
gk_cv h v0 7 (f_M_fail v0 (3 : Int32) h) fun _ h1 =>
some ((), h1)
def f_M_conditions_b237  (s0 : Option Nat) (s1 : UInt64) (h : gk_H) : Option (Unit × gk_H) :=
gk_cv h s0 7 (f_M_answerNumber s0 s1 h) fun _ h1 =>
some ((), h1)
def f_M_conditions_b196  (v0 : Option Nat) (v1 : Int32) (v6 : Int32) (v7 : Int32) (v8 : UInt64) (h : gk_H) : Option (Unit × gk_H) :=
((gk_get h v0 7 11).bind gk_asI).bind fun x1 =>
if x1 ≤ 0 then
(if v1 = (16 : Int32) then
(f_M_conditions_b237 v0 (FP.i2d v6) h)
else
(if v1 = (17 : Int32) then
(f_M_conditions_b237 v0 v8 h)
else
(gk_cv h v0 7 (f_M_divide v0 v8 (FP.i2d v7) h) fun x2 h1 =>
f_M_conditions_b237 v0 x2 h1)))
else
(some ((), h))
def f_M_conditions_b190 (b100 : Option Nat → Int32 → Int32 → Int32 → Int32 → Int32 → UInt64 → Int32 → gk_H → Option (Unit × gk_H)) (v0 : Option Nat) (v1 : Int32) (v2 : Int32) (v5 : Int32) (v6 : Int32) (v7 : Int32) (v8 : UInt64) (v10 : Int32) (h : gk_H) : Option (Unit × gk_H) :=
gk_let (v10 + (1 : Int32)) fun x1 =>
b100 v0 v1 v2 v5 v6 v7 v8 x1 h
def f_M_conditions_b100  : Nat → Option Nat → Int32 → Int32 → Int32 → Int32 → Int32 → UInt64 → Int32 → gk_H → Option (Unit × gk_H)
  | 0 => fun _ _ _ _ _ _ _ _ _ => none
  | fu + 1 => fun v0 v1 v2 v5 v6 v7 v8 v10 h =>
((gk_get h v0 7 5).bind gk_asR).bind fun x1 =>
((gk_ald h x1 1 v2).bind gk_asI).bind fun x2 =>
((gk_get h v0 7 6).bind gk_asR).bind fun x3 =>
((gk_ald h x3 1 v2).bind gk_asI).bind fun x4 =>
if (x2 * x4) ≤ v10 then
(f_M_conditions_b196 v0 v1 v6 v7 v8 h)
else
(((gk_get h v0 7 11).bind gk_asI).bind fun x5 =>
if x5 = 0 then
(gk_cv h v0 7 (f_M_meets v0 (((16 : Int32) * v2) + v10) h) fun x6 h1 =>
if x6 = 0 then
(f_M_conditions_b190 (f_M_conditions_b100 fu) v0 v1 v2 v5 v6 v7 v8 v10 h1)
else
(gk_let (v6 + (1 : Int32)) fun x7 =>
if v1 ≤ (16 : Int32) then
(f_M_conditions_b190 (f_M_conditions_b100 fu) v0 v1 v2 v5 x7 v7 v8 v10 h1)
else
(((gk_get h1 v0 7 7).bind gk_asR).bind fun x8 =>
((gk_ald h1 x8 1 (((16 : Int32) * v5) + v10)).bind gk_asI).bind fun x9 =>
if x9 = (1 : Int32) then
(gk_let (v7 + (1 : Int32)) fun x10 =>
((gk_get h1 v0 7 8).bind gk_asR).bind fun x11 =>
((gk_ald h1 x11 6 (((16 : Int32) * v5) + v10)).bind gk_asD).bind fun x12 =>
gk_dop (FP.dadd v8 x12) fun x13 =>
gk_cv h1 v0 7 (f_M_step v0 x13 h1) fun x14 h2 =>
f_M_conditions_b190 (f_M_conditions_b100 fu) v0 v1 v2 v5 x7 x10 x14 v10 h2)
else
(f_M_conditions_b190 (f_M_conditions_b100 fu) v0 v1 v2 v5 x7 v7 v8 v10 h1))))
else
(f_M_conditions_b196 v0 v1 v6 v7 v8 h))
def f_M_conditions_b42  (v0 : Option Nat) (v1 : Int32) (v2 : Int32) (v4 : Int32) (s0 : Int32) (h : gk_H) : Option (Unit × gk_H) :=
((gk_get h v0 7 5).bind gk_asR).bind fun x1 =>
((gk_ald h x1 1 s0).bind gk_asI).bind fun x2 =>
((gk_get h v0 7 5).bind gk_asR).bind fun x3 =>
((gk_ald h x3 1 v2).bind gk_asI).bind fun x4 =>
if x2 = x4 then
(((gk_get h v0 7 6).bind gk_asR).bind fun x5 =>
((gk_ald h x5 1 s0).bind gk_asI).bind fun x6 =>
((gk_get h v0 7 6).bind gk_asR).bind fun x7 =>
((gk_ald h x7 1 v2).bind gk_asI).bind fun x8 =>
if x6 = x8 then
(gk_cv h v0 7 (f_M_condition v0 v4 h) fun _ h1 =>
f_M_conditions_b100 gk_F v0 v1 v2 s0 (0 : Int32) (0 : Int32) (0x0000000000000000) (0 : Int32) h1)
else
(f_M_conditions_b76 v0 h))
else
(f_M_conditions_b76 v0 h)
def f_M_conditions (a0 : Option Nat) (a1 : Int32) (a2 : Int32) (a3 : Int32) (h : gk_H) : Option (Unit × gk_H) :=
if a1 = (15 : Int32) then
(gk_cv h a0 7 (f_M_products a0 a2 a3 h) fun _ h1 =>
some ((), h1))
else
(gk_cv h a0 7 (f_M_wantAny a0 (a2 + (1 : Int32)) h) fun x1 h2 =>
((gk_get h2 a0 7 11).bind gk_asI).bind fun x2 =>
if x2 ≤ 0 then
(if a3 = (3 : Int32) then
(f_M_conditions_b42 a0 a1 a2 x1 (a2 + (2 : Int32)) h2)
else
(f_M_conditions_b42 a0 a1 a2 x1 a2 h2))
else
(some ((), h2)))
def f_M_floor_b16  (v0 : UInt64) (h : gk_H) : Option (UInt64 × gk_H) :=
some (v0, h)
def f_M_floor_b37  (s0 : UInt64) (h : gk_H) : Option (UInt64 × gk_H) :=
some (s0, h)
def f_M_floor (a0 : UInt64) (h : gk_H) : Option (UInt64 × gk_H) :=
if 0 ≤ (Op.cmpValue (FP.dcmp a0 (0x4340000000000000)) .l) then
(f_M_floor_b16 a0 h)
else
(if 0 < (Op.cmpValue (FP.dcmp a0 (0xc340000000000000)) .g) then
(gk_let (FP.d2l a0) fun x1 =>
if (Op.cmpValue (FP.dcmp (FP.l2d x1) a0) .l) ≤ 0 then
(f_M_floor_b37 (FP.l2d x1) h)
else
(f_M_floor_b37 (FP.l2d (x1 - (1 : Int64))) h))
else
(f_M_floor_b16 a0 h))
def f_M_rounded_b133  (s0 : UInt64) (h : gk_H) : Option (UInt64 × gk_H) :=
some (s0, h)
def f_M_rounded_b117  (v1 : UInt64) (s0 : UInt64) (h : gk_H) : Option (UInt64 × gk_H) :=
if 0 ≤ (Op.cmpValue (FP.dcmp v1 (0x0000000000000000)) .g) then
(f_M_rounded_b133 s0 h)
else
(f_M_rounded_b133 (FP.dneg s0) h)
def f_M_rounded_b94  (v0 : Option Nat) (v1 : UInt64) (v3 : Int32) (v7 : UInt64) (s0 : UInt64) (h : gk_H) : Option (UInt64 × gk_H) :=
if v3 < 0 then
(gk_dop (FP.dmul s0 v7) fun x1 =>
gk_cv h v0 7 (f_M_step v0 x1 h) fun x2 h1 =>
f_M_rounded_b117 v1 x2 h1)
else
(gk_dop (FP.ddiv s0 v7) fun x3 =>
f_M_rounded_b117 v1 x3 h)
def f_M_rounded_b78  (v0 : Option Nat) (v1 : UInt64) (v3 : Int32) (v7 : UInt64) (v9 : UInt64) (h : gk_H) : Option (UInt64 × gk_H) :=
((gk_get h v0 7 11).bind gk_asI).bind fun x1 =>
if x1 ≤ 0 then
(gk_ca (f_M_floor v9 h) fun x2 h1 =>
f_M_rounded_b94 v0 v1 v3 v7 x2 h1)
else
(f_M_rounded_b94 v0 v1 v3 v7 (0x0000000000000000) h)
def f_M_rounded_b50  (v0 : Option Nat) (v1 : UInt64) (v3 : Int32) (v4 : Int32) (v7 : UInt64) (s0 : UInt64) (h : gk_H) : Option (UInt64 × gk_H) :=
((gk_get h v0 7 11).bind gk_asI).bind fun x1 =>
if x1 ≤ 0 then
(if v4 = 0 then
(f_M_rounded_b78 v0 v1 v3 v7 s0 h)
else
(gk_dop (FP.dadd s0 (0x3fe0000000000000)) fun x2 =>
gk_cv h v0 7 (f_M_step v0 x2 h) fun x3 h1 =>
f_M_rounded_b78 v0 v1 v3 v7 x3 h1))
else
(some ((0x0000000000000000), h))
def f_M_rounded_b24  (v0 : Option Nat) (v1 : UInt64) (v3 : Int32) (v4 : Int32) (v5 : UInt64) (s0 : Int32) (h : gk_H) : Option (UInt64 × gk_H) :=
gk_ca (f_M_tens s0 h) fun x1 h1 =>
if v3 < 0 then
(gk_dop (FP.ddiv v5 x1) fun x2 =>
f_M_rounded_b50 v0 v1 v3 v4 x1 x2 h1)
else
(gk_dop (FP.dmul v5 x1) fun x3 =>
gk_cv h1 v0 7 (f_M_step v0 x3 h1) fun x4 h2 =>
f_M_rounded_b50 v0 v1 v3 v4 x1 x4 h2)
def f_M_rounded_b12  (v0 : Option Nat) (v1 : UInt64) (v3 : Int32) (v4 : Int32) (s0 : UInt64) (h : gk_H) : Option (UInt64 × gk_H) :=
if 0 ≤ v3 then
(f_M_rounded_b24 v0 v1 v3 v4 s0 v3 h)
else
(f_M_rounded_b24 v0 v1 v3 v4 s0 (-v3) h)
def f_M_rounded (a0 : Option Nat) (a1 : UInt64) (a2 : Int32) (a3 : Int32) (h : gk_H) : Option (UInt64 × gk_H) :=
if 0 ≤ (Op.cmpValue (FP.dcmp a1 (0x0000000000000000)) .g) then
(f_M_rounded_b12 a0 a1 a2 a3 a1 h)
else
(f_M_rounded_b12 a0 a1 a2 a3 (FP.dneg a1) h)
def f_M_ceiling (a0 : UInt64) (h : gk_H) : Option (UInt64 × gk_H) :=
gk_dop (FP.dsub (0x0000000000000000) a0) fun x1 =>
gk_ca (f_M_floor x1 h) fun x2 h1 =>
gk_dop (FP.dsub (0x0000000000000000) x2) fun x3 =>
some (x3, h1)
def f_M_steps_b176  (s0 : Option Nat) (s1 : UInt64) (s2 : UInt64) (h : gk_H) : Option (UInt64 × gk_H) :=
gk_dop (FP.dmul s1 s2) fun x1 =>
gk_cv h s0 7 (f_M_step s0 x1 h) fun x2 h1 =>
some (x2, h1)
def f_M_steps_b135  (v0 : Option Nat) (v1 : Int32) (v2 : UInt64) (v4 : UInt64) (h : gk_H) : Option (UInt64 × gk_H) :=
gk_dop (FP.ddiv v2 v4) fun x1 =>
gk_cv h v0 7 (f_M_step v0 x1 h) fun x2 h1 =>
((gk_get h1 v0 7 11).bind gk_asI).bind fun x3 =>
if x3 ≤ 0 then
(if v1 = (31 : Int32) then
(gk_ca (f_M_ceiling x2 h1) fun x4 h2 =>
f_M_steps_b176 v0 v4 x4 h2)
else
(gk_ca (f_M_floor x2 h1) fun x5 h3 =>
f_M_steps_b176 v0 v4 x5 h3))
else
(some ((0x0000000000000000), h1))
def f_M_steps_b112   (h : gk_H) : Option (UInt64 × gk_H) :=
some ((0x0000000000000000), h)
def f_M_steps_b87  (s0 : UInt64) (h : gk_H) : Option (UInt64 × gk_H) :=
some (s0, h)
def f_M_steps_b73  (v2 : UInt64) (v6 : UInt64) (h : gk_H) : Option (UInt64 × gk_H) :=
if 0 ≤ (Op.cmpValue (FP.dcmp v2 (0x0000000000000000)) .g) then
(f_M_steps_b87 v6 h)
else
(f_M_steps_b87 (FP.dneg v6) h)
def f_M_steps_b64  (v2 : UInt64) (v6 : UInt64) (s0 : Int32) (s1 : Int32) (h : gk_H) : Option (UInt64 × gk_H) :=
if s0 = s1 then
(f_M_steps_b73 v2 v6 h)
else
(gk_dop (FP.dadd v6 (0x3ff0000000000000)) fun x1 =>
f_M_steps_b73 v2 x1 h)
def f_M_steps_b49  (v1 : Int32) (v2 : UInt64) (v6 : UInt64) (s0 : Int32) (h : gk_H) : Option (UInt64 × gk_H) :=
if v1 = (30 : Int32) then
(f_M_steps_b64 v2 v6 s0 (1 : Int32) h)
else
(f_M_steps_b64 v2 v6 s0 (0 : Int32) h)
def f_M_steps_b48  (v1 : Int32) (v2 : UInt64) (v6 : UInt64) (h : gk_H) : Option (UInt64 × gk_H) :=
f_M_steps_b49 v1 v2 v6 (0 : Int32) h
def f_M_steps_b18  (v1 : Int32) (v2 : UInt64) (s0 : UInt64) (h : gk_H) : Option (UInt64 × gk_H) :=
gk_ca (f_M_ceiling s0 h) fun x1 h1 =>
if 0 ≤ (Op.cmpValue (FP.dcmp x1 (0x4340000000000000)) .g) then
(f_M_steps_b48 v1 v2 x1 h1)
else
(if (lg_cmp ((FP.d2l x1) - (FP.d2l x1) / (2 : Int64) * (2 : Int64)) (1 : Int64)) = 0 then
(f_M_steps_b49 v1 v2 x1 (1 : Int32) h1)
else
(f_M_steps_b48 v1 v2 x1 h1))
def f_M_steps (a0 : Option Nat) (a1 : Int32) (a2 : UInt64) (a3 : UInt64) (h : gk_H) : Option (UInt64 × gk_H) :=
if (31 : Int32) ≤ a1 then
(if (Op.cmpValue (FP.dcmp a3 (0x0000000000000000)) .l) = 0 then
(if a1 = (32 : Int32) then
(if (Op.cmpValue (FP.dcmp a2 (0x0000000000000000)) .l) = 0 then
(f_M_steps_b112 h)
else
(gk_cv h a0 7 (f_M_fail a0 (2 : Int32) h) fun _ h1 =>
f_M_steps_b112 h1))
else
(f_M_steps_b112 h))
else
(if (Op.cmpValue (FP.dcmp a2 (0x0000000000000000)) .l) ≤ 0 then
(f_M_steps_b135 a0 a1 a2 a3 h)
else
(if 0 ≤ (Op.cmpValue (FP.dcmp a3 (0x0000000000000000)) .g) then
(f_M_steps_b135 a0 a1 a2 a3 h)
else
(gk_cv h a0 7 (f_M_fail a0 (6 : Int32) h) fun _ h2 =>
some ((0x0000000000000000), h2)))))
else
(if 0 ≤ (Op.cmpValue (FP.dcmp a2 (0x0000000000000000)) .g) then
(f_M_steps_b18 a1 a2 a2 h)
else
(f_M_steps_b18 a1 a2 (FP.dneg a2) h))
def f_M_modulo_b49  (s0 : UInt64) (h : gk_H) : Option (UInt64 × gk_H) :=
some (s0, h)
def f_M_modulo (a0 : Option Nat) (a1 : UInt64) (a2 : UInt64) (h : gk_H) : Option (UInt64 × gk_H) :=
gk_cv h a0 7 (f_M_divide a0 a1 a2 h) fun x1 h1 =>
((gk_get h1 a0 7 11).bind gk_asI).bind fun x2 =>
if x2 ≤ 0 then
(gk_ca (f_M_floor x1 h1) fun x3 h2 =>
gk_dop (FP.dmul a2 x3) fun x4 =>
gk_cv h2 a0 7 (f_M_step a0 x4 h2) fun x5 h3 =>
((gk_get h3 a0 7 11).bind gk_asI).bind fun x6 =>
if x6 ≤ 0 then
(gk_dop (FP.dsub a1 x5) fun x7 =>
gk_cv h3 a0 7 (f_M_step a0 x7 h3) fun x8 h4 =>
f_M_modulo_b49 x8 h4)
else
(f_M_modulo_b49 (0x0000000000000000) h3))
else
(some ((0x0000000000000000), h1))
def f_M_simple_b106  (s0 : UInt64) (h : gk_H) : Option (UInt64 × gk_H) :=
some (s0, h)
def f_M_simple_b48  (s0 : UInt64) (h : gk_H) : Option (UInt64 × gk_H) :=
some (s0, h)
def f_M_simple (a0 : Option Nat) (a1 : Int32) (a2 : UInt64) (a3 : UInt64) (h : gk_H) : Option (UInt64 × gk_H) :=
if a1 = (19 : Int32) then
(if 0 ≤ (Op.cmpValue (FP.dcmp a2 (0x0000000000000000)) .g) then
(f_M_simple_b48 a2 h)
else
(f_M_simple_b48 (FP.dneg a2) h))
else if a1 = (20 : Int32) then
(gk_ca (f_M_compareNumbers a2 (0x0000000000000000) h) fun x1 h1 =>
some ((FP.i2d x1), h1))
else if a1 = (21 : Int32) then
(gk_ca (f_M_floor a2 h) fun x2 h2 =>
some (x2, h2))
else if a1 = (22 : Int32) then
(gk_cv h a0 7 (f_M_power a0 a2 a3 h) fun x3 h3 =>
some (x3, h3))
else if a1 = (23 : Int32) then
(gk_cv h a0 7 (f_M_modulo a0 a2 a3 h) fun x4 h4 =>
some (x4, h4))
else 
(gk_cv h a0 7 (f_M_divide a0 a2 a3 h) fun x5 h5 =>
if 0 ≤ (Op.cmpValue (FP.dcmp x5 (0x0000000000000000)) .g) then
(gk_ca (f_M_floor x5 h5) fun x6 h6 =>
f_M_simple_b106 x6 h6)
else
(gk_ca (f_M_ceiling x5 h5) fun x7 h7 =>
f_M_simple_b106 x7 h7))
def f_M_choosing_b78  (v0 : Option Nat) (h : gk_H) : Option (Unit × gk_H) :=
gk_cv h v0 7 (f_M_fail v0 (6 : Int32) h) fun _ h1 =>
some ((), h1)
def f_M_choosing_b183  (v0 : Option Nat) (v7 : UInt64) (h : gk_H) : Option (Unit × gk_H) :=
gk_cv h v0 7 (f_M_answerNumber v0 v7 h) fun _ h1 =>
some ((), h1)
def f_M_choosing_b172 (b91 : Option Nat → Int32 → Int64 → Int64 → UInt64 → Int64 → gk_H → Option (Unit × gk_H)) (v0 : Option Nat) (v1 : Int32) (v3 : Int64) (v5 : Int64) (v9 : Int64) (s0 : UInt64) (h : gk_H) : Option (Unit × gk_H) :=
gk_let (v9 + (1 : Int64)) fun x1 =>
b91 v0 v1 v3 v5 s0 x1 h
def f_M_choosing_b170 (b91 : Option Nat → Int32 → Int64 → Int64 → UInt64 → Int64 → gk_H → Option (Unit × gk_H)) (v0 : Option Nat) (v1 : Int32) (v3 : Int64) (v5 : Int64) (v7 : UInt64) (v9 : Int64) (h : gk_H) : Option (Unit × gk_H) :=
f_M_choosing_b172 b91 v0 v1 v3 v5 v9 v7 h
def f_M_choosing_b137 (b91 : Option Nat → Int32 → Int64 → Int64 → UInt64 → Int64 → gk_H → Option (Unit × gk_H)) (v0 : Option Nat) (v1 : Int32) (v3 : Int64) (v5 : Int64) (v9 : Int64) (s0 : Option Nat) (s1 : UInt64) (s2 : Int64) (h : gk_H) : Option (Unit × gk_H) :=
gk_dop (FP.dmul s1 (FP.l2d s2)) fun x1 =>
gk_cv h s0 7 (f_M_step s0 x1 h) fun x2 h1 =>
if v1 = (28 : Int32) then
(((gk_get h1 v0 7 11).bind gk_asI).bind fun x3 =>
if x3 = 0 then
(gk_dop (FP.ddiv x2 (FP.l2d v9)) fun x4 =>
gk_cv h1 v0 7 (f_M_step v0 x4 h1) fun x5 h2 =>
f_M_choosing_b172 b91 v0 v1 v3 v5 v9 x5 h2)
else
(f_M_choosing_b170 b91 v0 v1 v3 v5 x2 v9 h1))
else
(f_M_choosing_b170 b91 v0 v1 v3 v5 x2 v9 h1)
def f_M_choosing_b105 (b91 : Option Nat → Int32 → Int64 → Int64 → UInt64 → Int64 → gk_H → Option (Unit × gk_H)) (v0 : Option Nat) (v1 : Int32) (v3 : Int64) (v5 : Int64) (v7 : UInt64) (v9 : Int64) (s0 : Int64) (s1 : Int64) (h : gk_H) : Option (Unit × gk_H) :=
if 0 < (lg_cmp s0 s1) then
(f_M_choosing_b183 v0 v7 h)
else
(((gk_get h v0 7 11).bind gk_asI).bind fun x1 =>
if x1 = 0 then
(if v1 = (27 : Int32) then
(f_M_choosing_b137 b91 v0 v1 v3 v5 v9 v0 v7 v9 h)
else
(f_M_choosing_b137 b91 v0 v1 v3 v5 v9 v0 v7 ((v3 - v5) + v9) h))
else
(f_M_choosing_b183 v0 v7 h))
def f_M_choosing_b91  : Nat → Option Nat → Int32 → Int64 → Int64 → UInt64 → Int64 → gk_H → Option (Unit × gk_H)
  | 0 => fun _ _ _ _ _ _ _ => none
  | fu + 1 => fun v0 v1 v3 v5 v7 v9 h =>
if v1 = (27 : Int32) then
(f_M_choosing_b105 (f_M_choosing_b91 fu) v0 v1 v3 v5 v7 v9 v9 v3 h)
else
(f_M_choosing_b105 (f_M_choosing_b91 fu) v0 v1 v3 v5 v7 v9 v9 v5 h)
def f_M_choosing_b85  (v0 : Option Nat) (v1 : Int32) (v3 : Int64) (v5 : Int64) (h : gk_H) : Option (Unit × gk_H) :=
f_M_choosing_b91 gk_F v0 v1 v3 v5 (0x3ff0000000000000) (1 : Int64) h
def f_M_choosing_b23  (v0 : Option Nat) (v1 : Int32) (v3 : Int64) (s0 : Int64) (h : gk_H) : Option (Unit × gk_H) :=
((gk_get h v0 7 11).bind gk_asI).bind fun x1 =>
if x1 ≤ 0 then
(if v1 = (27 : Int32) then
(if (lg_cmp v3 (0 : Int64)) < 0 then
(f_M_choosing_b78 v0 h)
else
(if (lg_cmp v3 (170 : Int64)) ≤ 0 then
(f_M_choosing_b85 v0 v1 v3 s0 h)
else
(f_M_choosing_b78 v0 h)))
else
(if (lg_cmp s0 (0 : Int64)) < 0 then
(f_M_choosing_b78 v0 h)
else
(if 0 < (lg_cmp s0 v3) then
(f_M_choosing_b78 v0 h)
else
(if (lg_cmp v3 (1000 : Int64)) ≤ 0 then
(f_M_choosing_b85 v0 v1 v3 s0 h)
else
(f_M_choosing_b78 v0 h)))))
else
(some ((), h))
def f_M_choosing (a0 : Option Nat) (a1 : Int32) (a2 : Int32) (h : gk_H) : Option (Unit × gk_H) :=
gk_cv h a0 7 (f_M_wantWhole a0 a2 h) fun x1 h1 =>
if a1 = (28 : Int32) then
(gk_cv h1 a0 7 (f_M_wantWhole a0 (a2 + (1 : Int32)) h1) fun x2 h2 =>
f_M_choosing_b23 a0 a1 x1 x2 h2)
else
(f_M_choosing_b23 a0 a1 x1 (0 : Int64) h1)
def f_M_divisor_b6  : Nat → Int64 → Int64 → gk_H → Option (Int64 × gk_H)
  | 0 => fun _ _ _ => none
  | fu + 1 => fun v4 v6 h =>
if (lg_cmp v6 (0 : Int64)) ≤ 0 then
(some (v4, h))
else
(if v6 = 0 then none else
gk_let (v4 - v4 / v6 * v6) fun x1 =>
(f_M_divisor_b6 fu) v6 x1 h)
def f_M_divisor (a0 : Int64) (a1 : Int64) (h : gk_H) : Option (Int64 × gk_H) :=
f_M_divisor_b6 gk_F a0 a1 h
def f_M_divisors_b229  (s0 : Option Nat) (s1 : UInt64) (h : gk_H) : Option (Unit × gk_H) :=
gk_cv h s0 7 (f_M_answerNumber s0 s1 h) fun _ h1 =>
some ((), h1)
def f_M_divisors_b204  (v0 : Option Nat) (v1 : Int32) (v4 : Int64) (v6 : Int64) (v9 : Int32) (h : gk_H) : Option (Unit × gk_H) :=
if v1 = (25 : Int32) then
(f_M_divisors_b229 v0 (FP.l2d v4) h)
else
(if v9 = 0 then
(f_M_divisors_b229 v0 (FP.l2d v6) h)
else
(f_M_divisors_b229 v0 (0x0000000000000000) h))
def f_M_divisors_b175  (v0 : Option Nat) (v1 : Int32) (v4 : Int64) (v6 : Int64) (v9 : Int32) (v10 : Int32) (h : gk_H) : Option (Unit × gk_H) :=
((gk_get h v0 7 11).bind gk_asI).bind fun x1 =>
if x1 = 0 then
(if v1 = (26 : Int32) then
(if v9 = 0 then
(if v10 = 0 then
(f_M_divisors_b204 v0 v1 v4 v6 v9 h)
else
(gk_cv h v0 7 (f_M_fail v0 (6 : Int32) h) fun _ h1 =>
f_M_divisors_b204 v0 v1 v4 v6 v9 h1))
else
(f_M_divisors_b204 v0 v1 v4 v6 v9 h))
else
(f_M_divisors_b204 v0 v1 v4 v6 v9 h))
else
(f_M_divisors_b204 v0 v1 v4 v6 v9 h)
def f_M_divisors_b151 (b18 : Option Nat → Int32 → Int32 → Int32 → Int64 → Int64 → Int32 → Int32 → Int32 → Int32 → gk_H → Option (Unit × gk_H)) (v0 : Option Nat) (v1 : Int32) (v2 : Int32) (v3 : Int32) (v4 : Int64) (v6 : Int64) (v8 : Int32) (v9 : Int32) (v10 : Int32) (v11 : Int32) (h : gk_H) : Option (Unit × gk_H) :=
gk_let (v11 + (1 : Int32)) fun x1 =>
b18 v0 v1 v2 v3 v4 v6 v8 v9 v10 x1 h
def f_M_divisors_b149 (b18 : Option Nat → Int32 → Int32 → Int32 → Int64 → Int64 → Int32 → Int32 → Int32 → Int32 → gk_H → Option (Unit × gk_H)) (v0 : Option Nat) (v1 : Int32) (v2 : Int32) (v3 : Int32) (v4 : Int64) (v8 : Int32) (v9 : Int32) (v10 : Int32) (v11 : Int32) (s0 : Int64) (h : gk_H) : Option (Unit × gk_H) :=
f_M_divisors_b151 b18 v0 v1 v2 v3 v4 s0 v8 v9 v10 v11 h
def f_M_divisors_b132 (b18 : Option Nat → Int32 → Int32 → Int32 → Int64 → Int64 → Int32 → Int32 → Int32 → Int32 → gk_H → Option (Unit × gk_H)) (v0 : Option Nat) (v1 : Int32) (v2 : Int32) (v3 : Int32) (v4 : Int64) (v6 : Int64) (v8 : Int32) (v9 : Int32) (v11 : Int32) (v14 : Int64) (s0 : Int32) (h : gk_H) : Option (Unit × gk_H) :=
if s0 = 0 then
(f_M_divisors_b149 b18 v0 v1 v2 v3 v4 v8 v9 s0 v11 (v6 * v14) h)
else
(f_M_divisors_b149 b18 v0 v1 v2 v3 v4 v8 v9 s0 v11 v6 h)
def f_M_divisors_b70 (b18 : Option Nat → Int32 → Int32 → Int32 → Int64 → Int64 → Int32 → Int32 → Int32 → Int32 → gk_H → Option (Unit × gk_H)) (v0 : Option Nat) (v1 : Int32) (v2 : Int32) (v3 : Int32) (v4 : Int64) (v6 : Int64) (v8 : Int32) (v10 : Int32) (v11 : Int32) (v12 : Int64) (s0 : Int32) (h : gk_H) : Option (Unit × gk_H) :=
((gk_get h v0 7 11).bind gk_asI).bind fun x1 =>
if x1 = 0 then
(if v8 = 0 then
(gk_ca (f_M_divisor v4 v12 h) fun x2 h1 =>
if s0 = 0 then
(if v10 = 0 then
(gk_ca (f_M_divisor v6 v12 h1) fun x3 h2 =>
if x3 = 0 then none else
gk_let (v12 / x3) fun x4 =>
if v6 = 0 then none else
if (lg_cmp x4 ((9007199254740991 : Int64) / v6)) ≤ 0 then
(f_M_divisors_b132 b18 v0 v1 v2 v3 x2 v6 v8 s0 v11 x4 (0 : Int32) h2)
else
(f_M_divisors_b132 b18 v0 v1 v2 v3 x2 v6 v8 s0 v11 x4 (1 : Int32) h2))
else
(f_M_divisors_b151 b18 v0 v1 v2 v3 x2 v6 v8 s0 v10 v11 h1))
else
(f_M_divisors_b151 b18 v0 v1 v2 v3 x2 v6 v8 s0 v10 v11 h1))
else
(f_M_divisors_b151 b18 v0 v1 v2 v3 v4 v6 v8 s0 v10 v11 h))
else
(f_M_divisors_b151 b18 v0 v1 v2 v3 v4 v6 v8 s0 v10 v11 h)
def f_M_divisors_b65 (b18 : Option Nat → Int32 → Int32 → Int32 → Int64 → Int64 → Int32 → Int32 → Int32 → Int32 → gk_H → Option (Unit × gk_H)) (v0 : Option Nat) (v1 : Int32) (v2 : Int32) (v3 : Int32) (v4 : Int64) (v6 : Int64) (v8 : Int32) (v10 : Int32) (v11 : Int32) (v12 : Int64) (h : gk_H) : Option (Unit × gk_H) :=
f_M_divisors_b70 b18 v0 v1 v2 v3 v4 v6 v8 v10 v11 v12 (1 : Int32) h
def f_M_divisors_b51 (b18 : Option Nat → Int32 → Int32 → Int32 → Int64 → Int64 → Int32 → Int32 → Int32 → Int32 → gk_H → Option (Unit × gk_H)) (v0 : Option Nat) (v1 : Int32) (v2 : Int32) (v3 : Int32) (v4 : Int64) (v6 : Int64) (v9 : Int32) (v10 : Int32) (v11 : Int32) (v12 : Int64) (s0 : Int32) (h : gk_H) : Option (Unit × gk_H) :=
if v9 = 0 then
(if (lg_cmp v12 (0 : Int64)) = 0 then
(f_M_divisors_b65 b18 v0 v1 v2 v3 v4 v6 s0 v10 v11 v12 h)
else
(f_M_divisors_b70 b18 v0 v1 v2 v3 v4 v6 s0 v10 v11 v12 (0 : Int32) h))
else
(f_M_divisors_b65 b18 v0 v1 v2 v3 v4 v6 s0 v10 v11 v12 h)
def f_M_divisors_b46 (b18 : Option Nat → Int32 → Int32 → Int32 → Int64 → Int64 → Int32 → Int32 → Int32 → Int32 → gk_H → Option (Unit × gk_H)) (v0 : Option Nat) (v1 : Int32) (v2 : Int32) (v3 : Int32) (v4 : Int64) (v6 : Int64) (v9 : Int32) (v10 : Int32) (v11 : Int32) (v12 : Int64) (h : gk_H) : Option (Unit × gk_H) :=
f_M_divisors_b51 b18 v0 v1 v2 v3 v4 v6 v9 v10 v11 v12 (1 : Int32) h
def f_M_divisors_b18  : Nat → Option Nat → Int32 → Int32 → Int32 → Int64 → Int64 → Int32 → Int32 → Int32 → Int32 → gk_H → Option (Unit × gk_H)
  | 0 => fun _ _ _ _ _ _ _ _ _ _ _ => none
  | fu + 1 => fun v0 v1 v2 v3 v4 v6 v8 v9 v10 v11 h =>
if (v2 + v3) ≤ v11 then
(((gk_get h v0 7 11).bind gk_asI).bind fun x1 =>
if x1 = 0 then
(if v8 = 0 then
(f_M_divisors_b175 v0 v1 v4 v6 v9 v10 h)
else
(gk_cv h v0 7 (f_M_fail v0 (6 : Int32) h) fun _ h1 =>
f_M_divisors_b175 v0 v1 v4 v6 v9 v10 h1))
else
(f_M_divisors_b175 v0 v1 v4 v6 v9 v10 h))
else
(gk_cv h v0 7 (f_M_wantWhole v0 v11 h) fun x2 h2 =>
if v8 = 0 then
(if 0 ≤ (lg_cmp x2 (0 : Int64)) then
(f_M_divisors_b51 (f_M_divisors_b18 fu) v0 v1 v2 v3 v4 v6 v9 v10 v11 x2 (0 : Int32) h2)
else
(f_M_divisors_b46 (f_M_divisors_b18 fu) v0 v1 v2 v3 v4 v6 v9 v10 v11 x2 h2))
else
(f_M_divisors_b46 (f_M_divisors_b18 fu) v0 v1 v2 v3 v4 v6 v9 v10 v11 x2 h2))
def f_M_divisors (a0 : Option Nat) (a1 : Int32) (a2 : Int32) (a3 : Int32) (h : gk_H) : Option (Unit × gk_H) :=
f_M_divisors_b18 gk_F a0 a1 a2 a3 (0 : Int64) (1 : Int64) (0 : Int32) (0 : Int32) (0 : Int32) a2 h
def f_M_numbers_b12  (v0 : Option Nat) (v1 : Int32) (v2 : Int32) (v3 : Int32) (h : gk_H) : Option (Unit × gk_H) :=
gk_cv h v0 7 (f_M_divisors v0 v1 v2 v3 h) fun _ h1 =>
some ((), h1)
def f_M_numbers_b32  (v0 : Option Nat) (v1 : Int32) (v2 : Int32) (h : gk_H) : Option (Unit × gk_H) :=
gk_cv h v0 7 (f_M_choosing v0 v1 v2 h) fun _ h1 =>
some ((), h1)
def f_M_numbers_b189   (h : gk_H) : Option (Unit × gk_H) :=
some ((), h)
def f_M_numbers_b186  (s0 : Option Nat) (s1 : UInt64) (h : gk_H) : Option (Unit × gk_H) :=
gk_cv h s0 7 (f_M_answerNumber s0 s1 h) fun _ h1 =>
f_M_numbers_b189 h1
def f_M_numbers_b149  (v0 : Option Nat) (v1 : Int32) (v4 : UInt64) (s0 : UInt64) (h : gk_H) : Option (Unit × gk_H) :=
((gk_get h v0 7 11).bind gk_asI).bind fun x1 =>
if x1 = 0 then
(if v1 ≤ (28 : Int32) then
(gk_cv h v0 7 (f_M_simple v0 v1 v4 s0 h) fun x2 h1 =>
f_M_numbers_b186 v0 x2 h1)
else
(gk_cv h v0 7 (f_M_steps v0 v1 v4 s0 h) fun x3 h2 =>
f_M_numbers_b186 v0 x3 h2))
else
(f_M_numbers_b189 h)
def f_M_numbers_b132   (h : gk_H) : Option (Unit × gk_H) :=
some ((), h)
def f_M_numbers_b126  (s0 : Option Nat) (s1 : Option Nat) (s2 : UInt64) (s3 : Int32) (s4 : Int32) (h : gk_H) : Option (Unit × gk_H) :=
gk_cv h s1 7 (f_M_rounded s1 s2 s3 s4 h) fun x1 h1 =>
gk_cv h1 s0 7 (f_M_answerNumber s0 x1 h1) fun _ h2 =>
f_M_numbers_b132 h2
def f_M_numbers_b101  (v0 : Option Nat) (v1 : Int32) (v4 : UInt64) (v6 : Int64) (h : gk_H) : Option (Unit × gk_H) :=
((gk_get h v0 7 11).bind gk_asI).bind fun x1 =>
if x1 = 0 then
(if v1 = (34 : Int32) then
(f_M_numbers_b126 v0 v0 v4 (Int64.toInt32 v6) (1 : Int32) h)
else
(f_M_numbers_b126 v0 v0 v4 (Int64.toInt32 v6) (0 : Int32) h))
else
(f_M_numbers_b132 h)
def f_M_numbers_b95  (v0 : Option Nat) (v1 : Int32) (v4 : UInt64) (v6 : Int64) (h : gk_H) : Option (Unit × gk_H) :=
gk_cv h v0 7 (f_M_fail v0 (6 : Int32) h) fun _ h1 =>
f_M_numbers_b101 v0 v1 v4 v6 h1
def f_M_numbers_b68  (v0 : Option Nat) (v1 : Int32) (v4 : UInt64) (s0 : Int64) (h : gk_H) : Option (Unit × gk_H) :=
((gk_get h v0 7 11).bind gk_asI).bind fun x1 =>
if x1 = 0 then
(if (lg_cmp s0 (-9 : Int64)) < 0 then
(f_M_numbers_b95 v0 v1 v4 s0 h)
else
(if (lg_cmp s0 (9 : Int64)) ≤ 0 then
(f_M_numbers_b101 v0 v1 v4 s0 h)
else
(f_M_numbers_b95 v0 v1 v4 s0 h)))
else
(f_M_numbers_b101 v0 v1 v4 s0 h)
def f_M_numbers (a0 : Option Nat) (a1 : Int32) (a2 : Int32) (a3 : Int32) (h : gk_H) : Option (Unit × gk_H) :=
if a1 = (25 : Int32) then
(f_M_numbers_b12 a0 a1 a2 a3 h)
else
(if a1 = (26 : Int32) then
(f_M_numbers_b12 a0 a1 a2 a3 h)
else
(if a1 = (27 : Int32) then
(f_M_numbers_b32 a0 a1 a2 h)
else
(if a1 = (28 : Int32) then
(f_M_numbers_b32 a0 a1 a2 h)
else
(gk_cv h a0 7 (f_M_wantNumber a0 a2 h) fun x1 h1 =>
if a1 ≤ (32 : Int32) then
(if a3 = (2 : Int32) then
(gk_cv h1 a0 7 (f_M_wantNumber a0 (a2 + (1 : Int32)) h1) fun x2 h2 =>
f_M_numbers_b149 a0 a1 x1 x2 h2)
else
(f_M_numbers_b149 a0 a1 x1 (0x0000000000000000) h1))
else
(if a3 = (2 : Int32) then
(gk_cv h1 a0 7 (f_M_wantWhole a0 (a2 + (1 : Int32)) h1) fun x3 h3 =>
f_M_numbers_b68 a0 a1 x1 x3 h3)
else
(f_M_numbers_b68 a0 a1 x1 (0 : Int64) h1))))))
def f_M_truthOf_b40   (h : gk_H) : Option (Int32 × gk_H) :=
if narrow .boolean (.int (0 : Int32)) = .int (0 : Int32) then some ((0 : Int32), h) else none
def f_M_truthOf_b157  (s0 : Int32) (h : gk_H) : Option (Int32 × gk_H) :=
if narrow .boolean (.int s0) = .int s0 then some (s0, h) else none
def f_M_truthOf_b143 (b71 : Option Nat → Int32 → Int32 → gk_H → Option (Int32 × gk_H)) (v0 : Option Nat) (v1 : Int32) (v2 : Int32) (v3 : Int32) (h : gk_H) : Option (Int32 × gk_H) :=
if v3 = 0 then
(gk_let (v2 + (1 : Int32)) fun x1 =>
b71 v0 v1 x1 h)
else
(if v2 = (4 : Int32) then
(f_M_truthOf_b157 (1 : Int32) h)
else
(f_M_truthOf_b157 (0 : Int32) h))
def f_M_truthOf_b136 (b71 : Option Nat → Int32 → Int32 → gk_H → Option (Int32 × gk_H)) (b96 : Option Nat → Int32 → Int32 → Int32 → Int32 → gk_H → Option (Int32 × gk_H)) (v0 : Option Nat) (v1 : Int32) (v2 : Int32) (v4 : Int32) (s0 : Int32) (h : gk_H) : Option (Int32 × gk_H) :=
gk_let (v4 + (1 : Int32)) fun x1 =>
b96 v0 v1 v2 s0 x1 h
def f_M_truthOf_b96 (b71 : Option Nat → Int32 → Int32 → gk_H → Option (Int32 × gk_H)) : Nat → Option Nat → Int32 → Int32 → Int32 → Int32 → gk_H → Option (Int32 × gk_H)
  | 0 => fun _ _ _ _ _ _ => none
  | fu + 1 => fun v0 v1 v2 v3 v4 h =>
if v2 ≤ v4 then
(f_M_truthOf_b143 b71 v0 v1 v2 v3 h)
else
(if v3 = 0 then
(f_M_truthOf_b143 b71 v0 v1 v2 v3 h)
else
(((gk_get h v0 7 10).bind gk_asR).bind fun x1 =>
((gk_ald h x1 3 (((256 : Int32) * v1) + v4)).bind gk_asI).bind fun x2 =>
gk_ca (f_M_great x2 h) fun x3 h1 =>
gk_ca (f_M_truthLetter v2 v4 h1) fun x4 h2 =>
if x3 = x4 then
(f_M_truthOf_b136 b71 (f_M_truthOf_b96 b71 fu) v0 v1 v2 v4 (1 : Int32) h2)
else
(f_M_truthOf_b136 b71 (f_M_truthOf_b96 b71 fu) v0 v1 v2 v4 (0 : Int32) h2)))
def f_M_truthOf_b92 (b71 : Option Nat → Int32 → Int32 → gk_H → Option (Int32 × gk_H)) (v0 : Option Nat) (v1 : Int32) (v2 : Int32) (s0 : Int32) (h : gk_H) : Option (Int32 × gk_H) :=
f_M_truthOf_b96 b71 gk_F v0 v1 v2 s0 (0 : Int32) h
def f_M_truthOf_b71  : Nat → Option Nat → Int32 → Int32 → gk_H → Option (Int32 × gk_H)
  | 0 => fun _ _ _ _ => none
  | fu + 1 => fun v0 v1 v2 h =>
if (6 : Int32) ≤ v2 then
(gk_cv h v0 7 (f_M_fail v0 (3 : Int32) h) fun _ h1 =>
if narrow .boolean (.int (0 : Int32)) = .int (0 : Int32) then some ((0 : Int32), h1) else none)
else
(((gk_get h v0 7 9).bind gk_asR).bind fun x1 =>
((gk_ald h x1 1 v1).bind gk_asI).bind fun x2 =>
if x2 = v2 then
(f_M_truthOf_b92 (f_M_truthOf_b71 fu) v0 v1 v2 (1 : Int32) h)
else
(f_M_truthOf_b92 (f_M_truthOf_b71 fu) v0 v1 v2 (0 : Int32) h))
def f_M_truthOf_b68  (s0 : Int32) (h : gk_H) : Option (Int32 × gk_H) :=
if narrow .boolean (.int s0) = .int s0 then some (s0, h) else none
def f_M_truthOf_b21  (v0 : Option Nat) (v1 : Int32) (h : gk_H) : Option (Int32 × gk_H) :=
((gk_get h v0 7 7).bind gk_asR).bind fun x1 =>
((gk_ald h x1 1 v1).bind gk_asI).bind fun x2 =>
if x2 = (4 : Int32) then
(f_M_truthOf_b40 h)
else
(((gk_get h v0 7 7).bind gk_asR).bind fun x3 =>
((gk_ald h x3 1 v1).bind gk_asI).bind fun x4 =>
if x4 = 0 then
(f_M_truthOf_b40 h)
else
(((gk_get h v0 7 7).bind gk_asR).bind fun x5 =>
((gk_ald h x5 1 v1).bind gk_asI).bind fun x6 =>
if x6 = (2 : Int32) then
(f_M_truthOf_b71 gk_F v0 v1 (4 : Int32) h)
else
(((gk_get h v0 7 8).bind gk_asR).bind fun x7 =>
((gk_ald h x7 6 v1).bind gk_asD).bind fun x8 =>
if (Op.cmpValue (FP.dcmp x8 (0x0000000000000000)) .l) = 0 then
(f_M_truthOf_b68 (0 : Int32) h)
else
(f_M_truthOf_b68 (1 : Int32) h))))
def f_M_truthOf (a0 : Option Nat) (a1 : Int32) (h : gk_H) : Option (Int32 × gk_H) :=
((gk_get h a0 7 7).bind gk_asR).bind fun x1 =>
((gk_ald h x1 1 a1).bind gk_asI).bind fun x2 =>
if x2 = (4 : Int32) then
(((gk_get h a0 7 8).bind gk_asR).bind fun x3 =>
((gk_ald h x3 6 a1).bind gk_asD).bind fun x4 =>
gk_cv h a0 7 (f_M_fail a0 (FP.d2i x4) h) fun _ h1 =>
f_M_truthOf_b21 a0 a1 h1)
else
(f_M_truthOf_b21 a0 a1 h)
def f_M_wantTruth_b35  (s0 : Int32) (h : gk_H) : Option (Int32 × gk_H) :=
if narrow .boolean (.int s0) = .int s0 then some (s0, h) else none
def f_M_wantTruth_b34   (h : gk_H) : Option (Int32 × gk_H) :=
f_M_wantTruth_b35 (0 : Int32) h
def f_M_wantTruth (a0 : Option Nat) (a1 : Int32) (h : gk_H) : Option (Int32 × gk_H) :=
((gk_get h a0 7 11).bind gk_asI).bind fun x1 =>
if x1 ≤ 0 then
(gk_cv h a0 7 (f_M_single a0 a1 h) fun x2 h1 =>
((gk_get h1 a0 7 11).bind gk_asI).bind fun x3 =>
if x3 = 0 then
(gk_cv h1 a0 7 (f_M_truthOf a0 x2 h1) fun x4 h2 =>
if x4 = 0 then
(f_M_wantTruth_b34 h2)
else
(f_M_wantTruth_b35 (1 : Int32) h2))
else
(f_M_wantTruth_b34 h1))
else
(if narrow .boolean (.int (0 : Int32)) = .int (0 : Int32) then some ((0 : Int32), h) else none)
def f_M_logic_b280  (s0 : Option Nat) (s1 : Int32) (h : gk_H) : Option (Unit × gk_H) :=
gk_cv h s0 7 (f_M_answerTruth s0 s1 h) fun _ h1 =>
some ((), h1)
def f_M_logic_b226  (v0 : Option Nat) (v1 : Int32) (v4 : Int32) (v5 : Int32) (h : gk_H) : Option (Unit × gk_H) :=
if v1 = (39 : Int32) then
(if v5 = v4 then
(f_M_logic_b280 v0 (1 : Int32) h)
else
(f_M_logic_b280 v0 (0 : Int32) h))
else
(if v1 = (40 : Int32) then
(if v5 ≤ 0 then
(f_M_logic_b280 v0 (0 : Int32) h)
else
(f_M_logic_b280 v0 (1 : Int32) h))
else
(if (v5 - v5 / (2 : Int32) * (2 : Int32)) = (1 : Int32) then
(f_M_logic_b280 v0 (1 : Int32) h)
else
(f_M_logic_b280 v0 (0 : Int32) h)))
def f_M_logic_b209  (v0 : Option Nat) (v1 : Int32) (v4 : Int32) (v5 : Int32) (h : gk_H) : Option (Unit × gk_H) :=
((gk_get h v0 7 11).bind gk_asI).bind fun x1 =>
if x1 = 0 then
(if v4 = 0 then
(gk_cv h v0 7 (f_M_fail v0 (3 : Int32) h) fun _ h1 =>
f_M_logic_b226 v0 v1 v4 v5 h1)
else
(f_M_logic_b226 v0 v1 v4 v5 h))
else
(f_M_logic_b226 v0 v1 v4 v5 h)
def f_M_logic_b203 (b9 : Option Nat → Int32 → Int32 → Int32 → Int32 → Int32 → Int32 → gk_H → Option (Unit × gk_H)) (v0 : Option Nat) (v1 : Int32) (v2 : Int32) (v3 : Int32) (v4 : Int32) (v5 : Int32) (v6 : Int32) (h : gk_H) : Option (Unit × gk_H) :=
gk_let (v6 + (1 : Int32)) fun x1 =>
b9 v0 v1 v2 v3 v4 v5 x1 h
def f_M_logic_b195 (b9 : Option Nat → Int32 → Int32 → Int32 → Int32 → Int32 → Int32 → gk_H → Option (Unit × gk_H)) (b64 : Option Nat → Int32 → Int32 → Int32 → Int32 → Int32 → Int32 → Int32 → gk_H → Option (Unit × gk_H)) (v0 : Option Nat) (v1 : Int32) (v2 : Int32) (v3 : Int32) (v4 : Int32) (v6 : Int32) (v7 : Int32) (s0 : Int32) (h : gk_H) : Option (Unit × gk_H) :=
gk_let (v7 + (1 : Int32)) fun x1 =>
b64 v0 v1 v2 v3 v4 s0 v6 x1 h
def f_M_logic_b193 (b9 : Option Nat → Int32 → Int32 → Int32 → Int32 → Int32 → Int32 → gk_H → Option (Unit × gk_H)) (b64 : Option Nat → Int32 → Int32 → Int32 → Int32 → Int32 → Int32 → Int32 → gk_H → Option (Unit × gk_H)) (v0 : Option Nat) (v1 : Int32) (v2 : Int32) (v3 : Int32) (v4 : Int32) (v5 : Int32) (v6 : Int32) (v7 : Int32) (h : gk_H) : Option (Unit × gk_H) :=
f_M_logic_b195 b9 b64 v0 v1 v2 v3 v4 v6 v7 v5 h
def f_M_logic_b167 (b9 : Option Nat → Int32 → Int32 → Int32 → Int32 → Int32 → Int32 → gk_H → Option (Unit × gk_H)) (b64 : Option Nat → Int32 → Int32 → Int32 → Int32 → Int32 → Int32 → Int32 → gk_H → Option (Unit × gk_H)) (v0 : Option Nat) (v1 : Int32) (v2 : Int32) (v3 : Int32) (v5 : Int32) (v6 : Int32) (v7 : Int32) (v8 : Int32) (v9 : Int32) (s0 : Int32) (h : gk_H) : Option (Unit × gk_H) :=
if v9 = 0 then
(f_M_logic_b193 b9 b64 v0 v1 v2 v3 s0 v5 v6 v7 h)
else
(((gk_get h v0 7 8).bind gk_asR).bind fun x1 =>
((gk_ald h x1 6 v8).bind gk_asD).bind fun x2 =>
if (Op.cmpValue (FP.dcmp x2 (0x0000000000000000)) .l) = 0 then
(f_M_logic_b193 b9 b64 v0 v1 v2 v3 s0 v5 v6 v7 h)
else
(f_M_logic_b195 b9 b64 v0 v1 v2 v3 s0 v6 v7 (v5 + (1 : Int32)) h))
def f_M_logic_b151 (b9 : Option Nat → Int32 → Int32 → Int32 → Int32 → Int32 → Int32 → gk_H → Option (Unit × gk_H)) (b64 : Option Nat → Int32 → Int32 → Int32 → Int32 → Int32 → Int32 → Int32 → gk_H → Option (Unit × gk_H)) (v0 : Option Nat) (v1 : Int32) (v2 : Int32) (v3 : Int32) (v4 : Int32) (v5 : Int32) (v6 : Int32) (v7 : Int32) (v8 : Int32) (s0 : Int32) (h : gk_H) : Option (Unit × gk_H) :=
if s0 = 0 then
(f_M_logic_b167 b9 b64 v0 v1 v2 v3 v5 v6 v7 v8 s0 v4 h)
else
(f_M_logic_b167 b9 b64 v0 v1 v2 v3 v5 v6 v7 v8 s0 (v4 + (1 : Int32)) h)
def f_M_logic_b146 (b9 : Option Nat → Int32 → Int32 → Int32 → Int32 → Int32 → Int32 → gk_H → Option (Unit × gk_H)) (b64 : Option Nat → Int32 → Int32 → Int32 → Int32 → Int32 → Int32 → Int32 → gk_H → Option (Unit × gk_H)) (v0 : Option Nat) (v1 : Int32) (v2 : Int32) (v3 : Int32) (v4 : Int32) (v5 : Int32) (v6 : Int32) (v7 : Int32) (v8 : Int32) (h : gk_H) : Option (Unit × gk_H) :=
f_M_logic_b151 b9 b64 v0 v1 v2 v3 v4 v5 v6 v7 v8 (1 : Int32) h
def f_M_logic_b124 (b9 : Option Nat → Int32 → Int32 → Int32 → Int32 → Int32 → Int32 → gk_H → Option (Unit × gk_H)) (b64 : Option Nat → Int32 → Int32 → Int32 → Int32 → Int32 → Int32 → Int32 → gk_H → Option (Unit × gk_H)) (v0 : Option Nat) (v1 : Int32) (v2 : Int32) (v3 : Int32) (v4 : Int32) (v5 : Int32) (v6 : Int32) (v7 : Int32) (v8 : Int32) (h : gk_H) : Option (Unit × gk_H) :=
((gk_get h v0 7 7).bind gk_asR).bind fun x1 =>
((gk_ald h x1 1 v8).bind gk_asI).bind fun x2 =>
if x2 = (1 : Int32) then
(f_M_logic_b146 b9 b64 v0 v1 v2 v3 v4 v5 v6 v7 v8 h)
else
(((gk_get h v0 7 7).bind gk_asR).bind fun x3 =>
((gk_ald h x3 1 v8).bind gk_asI).bind fun x4 =>
if x4 = (3 : Int32) then
(f_M_logic_b146 b9 b64 v0 v1 v2 v3 v4 v5 v6 v7 v8 h)
else
(f_M_logic_b151 b9 b64 v0 v1 v2 v3 v4 v5 v6 v7 v8 (0 : Int32) h))
def f_M_logic_b64 (b9 : Option Nat → Int32 → Int32 → Int32 → Int32 → Int32 → Int32 → gk_H → Option (Unit × gk_H)) : Nat → Option Nat → Int32 → Int32 → Int32 → Int32 → Int32 → Int32 → Int32 → gk_H → Option (Unit × gk_H)
  | 0 => fun _ _ _ _ _ _ _ _ _ => none
  | fu + 1 => fun v0 v1 v2 v3 v4 v5 v6 v7 h =>
((gk_get h v0 7 5).bind gk_asR).bind fun x1 =>
((gk_ald h x1 1 v6).bind gk_asI).bind fun x2 =>
((gk_get h v0 7 6).bind gk_asR).bind fun x3 =>
((gk_ald h x3 1 v6).bind gk_asI).bind fun x4 =>
if (x2 * x4) ≤ v7 then
(f_M_logic_b203 b9 v0 v1 v2 v3 v4 v5 v6 h)
else
(((gk_get h v0 7 11).bind gk_asI).bind fun x5 =>
if x5 = 0 then
(gk_let (((16 : Int32) * v6) + v7) fun x6 =>
((gk_get h v0 7 7).bind gk_asR).bind fun x7 =>
((gk_ald h x7 1 x6).bind gk_asI).bind fun x8 =>
if x8 = (4 : Int32) then
(((gk_get h v0 7 8).bind gk_asR).bind fun x9 =>
((gk_ald h x9 6 x6).bind gk_asD).bind fun x10 =>
gk_cv h v0 7 (f_M_fail v0 (FP.d2i x10) h) fun _ h1 =>
f_M_logic_b124 b9 (f_M_logic_b64 b9 fu) v0 v1 v2 v3 v4 v5 v6 v7 x6 h1)
else
(f_M_logic_b124 b9 (f_M_logic_b64 b9 fu) v0 v1 v2 v3 v4 v5 v6 v7 x6 h))
else
(f_M_logic_b203 b9 v0 v1 v2 v3 v4 v5 v6 h))
def f_M_logic_b53 (b9 : Option Nat → Int32 → Int32 → Int32 → Int32 → Int32 → Int32 → gk_H → Option (Unit × gk_H)) (v0 : Option Nat) (v1 : Int32) (v2 : Int32) (v3 : Int32) (v4 : Int32) (v6 : Int32) (s0 : Int32) (h : gk_H) : Option (Unit × gk_H) :=
gk_let (v4 + (1 : Int32)) fun x1 =>
f_M_logic_b203 b9 v0 v1 v2 v3 x1 s0 v6 h
def f_M_logic_b9  : Nat → Option Nat → Int32 → Int32 → Int32 → Int32 → Int32 → Int32 → gk_H → Option (Unit × gk_H)
  | 0 => fun _ _ _ _ _ _ _ _ => none
  | fu + 1 => fun v0 v1 v2 v3 v4 v5 v6 h =>
if (v2 + v3) ≤ v6 then
(f_M_logic_b209 v0 v1 v4 v5 h)
else
(((gk_get h v0 7 11).bind gk_asI).bind fun x1 =>
if x1 = 0 then
(((gk_get h v0 7 4).bind gk_asR).bind fun x2 =>
((gk_ald h x2 1 v6).bind gk_asI).bind fun x3 =>
if (5 : Int32) ≤ x3 then
(f_M_logic_b64 (f_M_logic_b9 fu) gk_F v0 v1 v2 v3 v4 v5 v6 (0 : Int32) h)
else
(gk_cv h v0 7 (f_M_wantTruth v0 v6 h) fun x4 h1 =>
if x4 = 0 then
(f_M_logic_b53 (f_M_logic_b9 fu) v0 v1 v2 v3 v4 v6 v5 h1)
else
(f_M_logic_b53 (f_M_logic_b9 fu) v0 v1 v2 v3 v4 v6 (v5 + (1 : Int32)) h1)))
else
(f_M_logic_b209 v0 v1 v4 v5 h))
def f_M_logic (a0 : Option Nat) (a1 : Int32) (a2 : Int32) (a3 : Int32) (h : gk_H) : Option (Unit × gk_H) :=
f_M_logic_b9 gk_F a0 a1 a2 a3 (0 : Int32) (0 : Int32) a2 h
def f_M_choices_b266   (h : gk_H) : Option (Unit × gk_H) :=
some ((), h)
def f_M_choices_b263  (s0 : Option Nat) (s1 : Int32) (h : gk_H) : Option (Unit × gk_H) :=
gk_cv h s0 7 (f_M_answerTruth s0 s1 h) fun _ h1 =>
f_M_choices_b266 h1
def f_M_choices_b230  (s0 : Option Nat) (s1 : Int32) (h : gk_H) : Option (Unit × gk_H) :=
gk_cv h s0 7 (f_M_answerTruth s0 s1 h) fun _ h1 =>
f_M_choices_b266 h1
def f_M_choices_b187   (h : gk_H) : Option (Unit × gk_H) :=
f_M_choices_b266 h
def f_M_choices_b169  (v0 : Option Nat) (v2 : Int32) (v4 : Int64) (h : gk_H) : Option (Unit × gk_H) :=
((gk_get h v0 7 11).bind gk_asI).bind fun x1 =>
if x1 = 0 then
(gk_cv h v0 7 (f_M_copyValue v0 (v2 + (Int64.toInt32 v4)) (16 : Int32) h) fun _ h1 =>
f_M_choices_b187 h1)
else
(f_M_choices_b187 h)
def f_M_choices_b164  (v0 : Option Nat) (v2 : Int32) (v4 : Int64) (h : gk_H) : Option (Unit × gk_H) :=
gk_cv h v0 7 (f_M_fail v0 (3 : Int32) h) fun _ h1 =>
f_M_choices_b169 v0 v2 v4 h1
def f_M_choices_b121  (s0 : Option Nat) (s1 : Int32) (h : gk_H) : Option (Unit × gk_H) :=
gk_cv h s0 7 (f_M_copyValue s0 s1 (16 : Int32) h) fun _ h1 =>
f_M_choices_b266 h1
def f_M_choices_b106  (v0 : Option Nat) (v2 : Int32) (s0 : Int32) (h : gk_H) : Option (Unit × gk_H) :=
if s0 = 0 then
(f_M_choices_b121 v0 v2 h)
else
(f_M_choices_b121 v0 (v2 + (1 : Int32)) h)
def f_M_choices_b105  (v0 : Option Nat) (v2 : Int32) (h : gk_H) : Option (Unit × gk_H) :=
f_M_choices_b106 v0 v2 (0 : Int32) h
def f_M_choices_b101  (v0 : Option Nat) (v2 : Int32) (h : gk_H) : Option (Unit × gk_H) :=
f_M_choices_b106 v0 v2 (1 : Int32) h
def f_M_choices_b60   (h : gk_H) : Option (Unit × gk_H) :=
f_M_choices_b266 h
def f_M_choices (a0 : Option Nat) (a1 : Int32) (a2 : Int32) (a3 : Int32) (h : gk_H) : Option (Unit × gk_H) :=
if a1 = (35 : Int32) then
(gk_cv h a0 7 (f_M_wantTruth a0 a2 h) fun x1 h1 =>
((gk_get h1 a0 7 11).bind gk_asI).bind fun x2 =>
if x2 ≤ 0 then
(if x1 = 0 then
(if a3 = (3 : Int32) then
(gk_cv h1 a0 7 (f_M_copyValue a0 (a2 + (2 : Int32)) (16 : Int32) h1) fun _ h2 =>
f_M_choices_b60 h2)
else
(gk_cv h1 a0 7 (f_M_answerTruth a0 (0 : Int32) h1) fun _ h3 =>
f_M_choices_b60 h3))
else
(gk_cv h1 a0 7 (f_M_copyValue a0 (a2 + (1 : Int32)) (16 : Int32) h1) fun _ h4 =>
f_M_choices_b60 h4))
else
(some ((), h1)))
else
(if (38 : Int32) ≤ a1 then
(if a1 = (38 : Int32) then
(gk_cv h a0 7 (f_M_wantWhole a0 a2 h) fun x3 h5 =>
((gk_get h5 a0 7 11).bind gk_asI).bind fun x4 =>
if x4 = 0 then
(if (lg_cmp x3 (1 : Int64)) < 0 then
(f_M_choices_b164 a0 a2 x3 h5)
else
(if (lg_cmp x3 (Int32.toInt64 a3)) < 0 then
(f_M_choices_b169 a0 a2 x3 h5)
else
(f_M_choices_b164 a0 a2 x3 h5)))
else
(f_M_choices_b169 a0 a2 x3 h5))
else
(if (42 : Int32) ≤ a1 then
(if a1 = (42 : Int32) then
(gk_cv h a0 7 (f_M_wantTruth a0 a2 h) fun x5 h6 =>
if x5 = 0 then
(f_M_choices_b230 a0 (1 : Int32) h6)
else
(f_M_choices_b230 a0 (0 : Int32) h6))
else
(if a1 = (43 : Int32) then
(gk_cv h a0 7 (f_M_fail a0 (7 : Int32) h) fun _ h7 =>
f_M_choices_b266 h7)
else
(if a1 = (44 : Int32) then
(f_M_choices_b263 a0 (1 : Int32) h)
else
(f_M_choices_b263 a0 (0 : Int32) h))))
else
(gk_cv h a0 7 (f_M_logic a0 a1 a2 a3 h) fun _ h8 =>
f_M_choices_b266 h8)))
else
(((gk_get h a0 7 4).bind gk_asR).bind fun x6 =>
((gk_ald h x6 1 a2).bind gk_asI).bind fun x7 =>
if x7 = (4 : Int32) then
(if a1 = (36 : Int32) then
(f_M_choices_b101 a0 a2 h)
else
(((gk_get h a0 7 8).bind gk_asR).bind fun x8 =>
((gk_ald h x8 6 ((16 : Int32) * a2)).bind gk_asD).bind fun x9 =>
if (Op.cmpValue (FP.dcmp x9 (0x401c000000000000)) .l) = 0 then
(f_M_choices_b101 a0 a2 h)
else
(f_M_choices_b105 a0 a2 h)))
else
(f_M_choices_b105 a0 a2 h)))
def f_M_answerCell (a0 : Option Nat) (a1 : Int32) (h : gk_H) : Option (Unit × gk_H) :=
((gk_get h a0 7 7).bind gk_asR).bind fun x1 =>
((gk_ald h x1 1 a1).bind gk_asI).bind fun x2 =>
gk_cv h a0 7 (f_M_setSingle a0 (16 : Int32) x2 (0x0000000000000000) h) fun _ h1 =>
gk_cv h1 a0 7 (f_M_copyCell a0 a1 (256 : Int32) h1) fun _ h2 =>
some ((), h2)
def f_M_kindsOf_b158   (h : gk_H) : Option (Unit × gk_H) :=
some ((), h)
def f_M_kindsOf_b126  (s0 : Option Nat) (s1 : UInt64) (h : gk_H) : Option (Unit × gk_H) :=
gk_cv h s0 7 (f_M_answerNumber s0 s1 h) fun _ h1 =>
f_M_kindsOf_b158 h1
def f_M_kindsOf_b116  (v0 : Option Nat) (v3 : Int32) (s0 : Option Nat) (h : gk_H) : Option (Unit × gk_H) :=
((gk_get h v0 7 8).bind gk_asR).bind fun x1 =>
((gk_ald h x1 6 v3).bind gk_asD).bind fun x2 =>
f_M_kindsOf_b126 s0 x2 h
def f_M_kindsOf_b75  (v0 : Option Nat) (v1 : Int32) (v2 : Int32) (h : gk_H) : Option (Unit × gk_H) :=
gk_cv h v0 7 (f_M_wantAny v0 v2 h) fun x1 h1 =>
((gk_get h1 v0 7 11).bind gk_asI).bind fun x2 =>
if x2 ≤ 0 then
(if v1 = (52 : Int32) then
(((gk_get h1 v0 7 7).bind gk_asR).bind fun x3 =>
((gk_ald h1 x3 1 x1).bind gk_asI).bind fun x4 =>
if x4 = (1 : Int32) then
(f_M_kindsOf_b116 v0 x1 v0 h1)
else
(((gk_get h1 v0 7 7).bind gk_asR).bind fun x5 =>
((gk_ald h1 x5 1 x1).bind gk_asI).bind fun x6 =>
if x6 = (3 : Int32) then
(f_M_kindsOf_b116 v0 x1 v0 h1)
else
(f_M_kindsOf_b126 v0 (0x0000000000000000) h1)))
else
(((gk_get h1 v0 7 7).bind gk_asR).bind fun x7 =>
((gk_ald h1 x7 1 x1).bind gk_asI).bind fun x8 =>
if x8 = (2 : Int32) then
(gk_cv h1 v0 7 (f_M_answerCell v0 x1 h1) fun _ h2 =>
f_M_kindsOf_b158 h2)
else
(gk_cv h1 v0 7 (f_M_setSingle v0 (16 : Int32) (2 : Int32) (0x0000000000000000) h1) fun _ h3 =>
f_M_kindsOf_b158 h3)))
else
(some ((), h1))
def f_M_kindsOf_b368  (s0 : Option Nat) (s1 : Int32) (h : gk_H) : Option (Unit × gk_H) :=
gk_cv h s0 7 (f_M_answerTruth s0 s1 h) fun _ h1 =>
some ((), h1)
def f_M_kindsOf_b248  (v0 : Option Nat) (v5 : Int32) (h : gk_H) : Option (Unit × gk_H) :=
gk_cv h v0 7 (f_M_answerNumber v0 (FP.i2d v5) h) fun _ h1 =>
some ((), h1)
def f_M_kindsOf_b229  (v0 : Option Nat) (v1 : Int32) (v4 : Int32) (s0 : Int32) (h : gk_H) : Option (Unit × gk_H) :=
if v1 = (55 : Int32) then
(if s0 = 0 then
(gk_cv h v0 7 (f_M_fail v0 (7 : Int32) h) fun _ h1 =>
f_M_kindsOf_b248 v0 s0 h1)
else
(f_M_kindsOf_b248 v0 s0 h))
else
(if v1 = (46 : Int32) then
(if v4 = 0 then
(f_M_kindsOf_b368 v0 (1 : Int32) h)
else
(f_M_kindsOf_b368 v0 (0 : Int32) h))
else
(if v1 = (47 : Int32) then
(if v4 = (1 : Int32) then
(f_M_kindsOf_b368 v0 (1 : Int32) h)
else
(f_M_kindsOf_b368 v0 (0 : Int32) h))
else
(if v1 = (48 : Int32) then
(if v4 = (2 : Int32) then
(f_M_kindsOf_b368 v0 (1 : Int32) h)
else
(f_M_kindsOf_b368 v0 (0 : Int32) h))
else
(if v1 = (49 : Int32) then
(if v4 = (3 : Int32) then
(f_M_kindsOf_b368 v0 (1 : Int32) h)
else
(f_M_kindsOf_b368 v0 (0 : Int32) h))
else
(if v1 = (50 : Int32) then
(if v4 = (4 : Int32) then
(f_M_kindsOf_b368 v0 (1 : Int32) h)
else
(f_M_kindsOf_b368 v0 (0 : Int32) h))
else
(if s0 = (7 : Int32) then
(f_M_kindsOf_b368 v0 (1 : Int32) h)
else
(f_M_kindsOf_b368 v0 (0 : Int32) h)))))))
def f_M_kindsOf_b199  (v0 : Option Nat) (v1 : Int32) (v2 : Int32) (v3 : Int32) (s0 : Int32) (h : gk_H) : Option (Unit × gk_H) :=
if s0 = (4 : Int32) then
(if v3 = 0 then
(f_M_kindsOf_b229 v0 v1 s0 (3 : Int32) h)
else
(((gk_get h v0 7 8).bind gk_asR).bind fun x1 =>
((gk_ald h x1 6 ((16 : Int32) * v2)).bind gk_asD).bind fun x2 =>
f_M_kindsOf_b229 v0 v1 s0 (FP.d2i x2) h))
else
(f_M_kindsOf_b229 v0 v1 s0 (0 : Int32) h)
def f_M_kindsOf_b181  (v0 : Option Nat) (v1 : Int32) (v2 : Int32) (s0 : Int32) (h : gk_H) : Option (Unit × gk_H) :=
if s0 = 0 then
(f_M_kindsOf_b199 v0 v1 v2 s0 (4 : Int32) h)
else
(((gk_get h v0 7 7).bind gk_asR).bind fun x1 =>
((gk_ald h x1 1 ((16 : Int32) * v2)).bind gk_asI).bind fun x2 =>
f_M_kindsOf_b199 v0 v1 v2 s0 x2 h)
def f_M_kindsOf_b59  (s0 : Option Nat) (s1 : UInt64) (h : gk_H) : Option (Unit × gk_H) :=
gk_cv h s0 7 (f_M_answerNumber s0 s1 h) fun _ h1 =>
some ((), h1)
def f_M_kindsOf (a0 : Option Nat) (a1 : Int32) (a2 : Int32) (h : gk_H) : Option (Unit × gk_H) :=
if a1 = (54 : Int32) then
(((gk_get h a0 7 4).bind gk_asR).bind fun x1 =>
((gk_ald h x1 1 a2).bind gk_asI).bind fun x2 =>
if (2 : Int32) ≤ x2 then
(if x2 = (2 : Int32) then
(f_M_kindsOf_b59 a0 (0x4000000000000000) h)
else
(if x2 = (3 : Int32) then
(f_M_kindsOf_b59 a0 (0x4010000000000000) h)
else
(if x2 = (4 : Int32) then
(f_M_kindsOf_b59 a0 (0x4030000000000000) h)
else
(f_M_kindsOf_b59 a0 (0x4050000000000000) h))))
else
(f_M_kindsOf_b59 a0 (0x3ff0000000000000) h))
else
(if a1 = (52 : Int32) then
(f_M_kindsOf_b75 a0 a1 a2 h)
else
(if a1 = (53 : Int32) then
(f_M_kindsOf_b75 a0 a1 a2 h)
else
(((gk_get h a0 7 5).bind gk_asR).bind fun x3 =>
((gk_ald h x3 1 a2).bind gk_asI).bind fun x4 =>
((gk_get h a0 7 6).bind gk_asR).bind fun x5 =>
((gk_ald h x5 1 a2).bind gk_asI).bind fun x6 =>
if (x4 * x6) = (1 : Int32) then
(f_M_kindsOf_b181 a0 a1 a2 (1 : Int32) h)
else
(f_M_kindsOf_b181 a0 a1 a2 (0 : Int32) h))))
def f_M_isAt_b87  (v4 : Int32) (h : gk_H) : Option (Int32 × gk_H) :=
if narrow .boolean (.int v4) = .int v4 then some (v4, h) else none
def f_M_isAt_b79 (b27 : Option Nat → Int32 → Int32 → Int32 → Int32 → Int32 → gk_H → Option (Int32 × gk_H)) (v0 : Option Nat) (v1 : Int32) (v2 : Int32) (v3 : Int32) (v5 : Int32) (s0 : Int32) (h : gk_H) : Option (Int32 × gk_H) :=
gk_let (v5 + (1 : Int32)) fun x1 =>
b27 v0 v1 v2 v3 s0 x1 h
def f_M_isAt_b27  : Nat → Option Nat → Int32 → Int32 → Int32 → Int32 → Int32 → gk_H → Option (Int32 × gk_H)
  | 0 => fun _ _ _ _ _ _ _ => none
  | fu + 1 => fun v0 v1 v2 v3 v4 v5 h =>
((gk_get h v0 7 14).bind gk_asR).bind fun x1 =>
((gk_ald h x1 1 v3).bind gk_asI).bind fun x2 =>
if x2 ≤ v5 then
(f_M_isAt_b87 v4 h)
else
(if v4 = 0 then
(f_M_isAt_b87 v4 h)
else
(((gk_get h v0 7 15).bind gk_asR).bind fun x3 =>
((gk_ald h x3 3 ((((256 : Int32) * v1) + v2) + v5)).bind gk_asI).bind fun x4 =>
((gk_get h v0 7 15).bind gk_asR).bind fun x5 =>
((gk_ald h x5 3 (((256 : Int32) * v3) + v5)).bind gk_asI).bind fun x6 =>
if x4 = x6 then
(f_M_isAt_b79 (f_M_isAt_b27 fu) v0 v1 v2 v3 v5 (1 : Int32) h)
else
(f_M_isAt_b79 (f_M_isAt_b27 fu) v0 v1 v2 v3 v5 (0 : Int32) h)))
def f_M_isAt_b22  (v0 : Option Nat) (v1 : Int32) (v2 : Int32) (v3 : Int32) (s0 : Int32) (h : gk_H) : Option (Int32 × gk_H) :=
f_M_isAt_b27 gk_F v0 v1 v2 v3 s0 (0 : Int32) h
def f_M_isAt (a0 : Option Nat) (a1 : Int32) (a2 : Int32) (a3 : Int32) (h : gk_H) : Option (Int32 × gk_H) :=
((gk_get h a0 7 14).bind gk_asR).bind fun x1 =>
((gk_ald h x1 1 a3).bind gk_asI).bind fun x2 =>
((gk_get h a0 7 14).bind gk_asR).bind fun x3 =>
((gk_ald h x3 1 a1).bind gk_asI).bind fun x4 =>
if x4 < (a2 + x2) then
(f_M_isAt_b22 a0 a1 a2 a3 (0 : Int32) h)
else
(f_M_isAt_b22 a0 a1 a2 a3 (1 : Int32) h)
def f_M_addPart_b72   (h : gk_H) : Option (Unit × gk_H) :=
some ((), h)
def f_M_addPart_b30  : Nat → Option Nat → Int32 → Int64 → Int64 → gk_H → Option (Unit × gk_H)
  | 0 => fun _ _ _ _ _ => none
  | fu + 1 => fun v0 v1 v6 v8 h =>
if 0 ≤ (lg_cmp v8 v6) then
(f_M_addPart_b72 h)
else
(((gk_get h v0 7 11).bind gk_asI).bind fun x1 =>
if x1 = 0 then
(((gk_get h v0 7 15).bind gk_asR).bind fun x2 =>
((gk_ald h x2 3 (((256 : Int32) * v1) + (Int64.toInt32 v8))).bind gk_asI).bind fun x3 =>
gk_cv h v0 7 (f_M_add v0 x3 h) fun _ h1 =>
gk_let (v8 + (1 : Int64)) fun x4 =>
(f_M_addPart_b30 fu) v0 v1 v6 x4 h1)
else
(f_M_addPart_b72 h))
def f_M_addPart_b25  (v0 : Option Nat) (v1 : Int32) (v2 : Int64) (s0 : Int64) (h : gk_H) : Option (Unit × gk_H) :=
f_M_addPart_b30 gk_F v0 v1 s0 v2 h
def f_M_addPart (a0 : Option Nat) (a1 : Int32) (a2 : Int64) (a3 : Int64) (h : gk_H) : Option (Unit × gk_H) :=
((gk_get h a0 7 14).bind gk_asR).bind fun x1 =>
((gk_ald h x1 1 a1).bind gk_asI).bind fun x2 =>
if 0 ≤ (lg_cmp a3 (Int32.toInt64 x2)) then
(((gk_get h a0 7 14).bind gk_asR).bind fun x3 =>
((gk_ald h x3 1 a1).bind gk_asI).bind fun x4 =>
f_M_addPart_b25 a0 a1 a2 (Int32.toInt64 x4) h)
else
(f_M_addPart_b25 a0 a1 a2 a3 h)
def f_M_substitute_b225   (h : gk_H) : Option (Unit × gk_H) :=
some ((), h)
def f_M_substitute_b222 (b78 : Option Nat → Int64 → Int32 → Int64 → gk_H → Option (Unit × gk_H)) (v0 : Option Nat) (v3 : Int64) (v5 : Int32) (v6 : Int64) (h : gk_H) : Option (Unit × gk_H) :=
b78 v0 v3 v5 v6 h
def f_M_substitute_b205 (b78 : Option Nat → Int64 → Int32 → Int64 → gk_H → Option (Unit × gk_H)) (v0 : Option Nat) (v3 : Int64) (v5 : Int32) (v6 : Int64) (s0 : Int32) (h : gk_H) : Option (Unit × gk_H) :=
gk_cv h v0 7 (f_M_addPart v0 (0 : Int32) (Int32.toInt64 v5) (Int32.toInt64 s0) h) fun _ h1 =>
f_M_substitute_b222 b78 v0 v3 s0 v6 h1
def f_M_substitute_b184 (b78 : Option Nat → Int64 → Int32 → Int64 → gk_H → Option (Unit × gk_H)) (v0 : Option Nat) (v3 : Int64) (v5 : Int32) (v6 : Int64) (v8 : Int32) (h : gk_H) : Option (Unit × gk_H) :=
if v8 = 0 then
(f_M_substitute_b205 b78 v0 v3 v5 v6 (v5 + (1 : Int32)) h)
else
(((gk_get h v0 7 14).bind gk_asR).bind fun x1 =>
((gk_ald h x1 1 (1 : Int32)).bind gk_asI).bind fun x2 =>
f_M_substitute_b205 b78 v0 v3 v5 v6 (v5 + x2) h)
def f_M_substitute_b157 (b78 : Option Nat → Int64 → Int32 → Int64 → gk_H → Option (Unit × gk_H)) (v0 : Option Nat) (v3 : Int64) (v5 : Int32) (v6 : Int64) (h : gk_H) : Option (Unit × gk_H) :=
((gk_get h v0 7 14).bind gk_asR).bind fun x1 =>
((gk_ald h x1 1 (2 : Int32)).bind gk_asI).bind fun x2 =>
gk_cv h v0 7 (f_M_addPart v0 (2 : Int32) (0 : Int64) (Int32.toInt64 x2) h) fun _ h1 =>
((gk_get h1 v0 7 14).bind gk_asR).bind fun x3 =>
((gk_ald h1 x3 1 (1 : Int32)).bind gk_asI).bind fun x4 =>
gk_let (v5 + x4) fun x5 =>
f_M_substitute_b222 b78 v0 v3 x5 v6 h1
def f_M_substitute_b137 (b78 : Option Nat → Int64 → Int32 → Int64 → gk_H → Option (Unit × gk_H)) (v0 : Option Nat) (v3 : Int64) (v5 : Int32) (v8 : Int32) (s0 : Int64) (h : gk_H) : Option (Unit × gk_H) :=
if v8 = 0 then
(f_M_substitute_b184 b78 v0 v3 v5 s0 v8 h)
else
(if (lg_cmp v3 (0 : Int64)) = 0 then
(f_M_substitute_b157 b78 v0 v3 v5 s0 h)
else
(if (lg_cmp v3 s0) = 0 then
(f_M_substitute_b157 b78 v0 v3 v5 s0 h)
else
(f_M_substitute_b184 b78 v0 v3 v5 s0 v8 h)))
def f_M_substitute_b121 (b78 : Option Nat → Int64 → Int32 → Int64 → gk_H → Option (Unit × gk_H)) (v0 : Option Nat) (v3 : Int64) (v5 : Int32) (v6 : Int64) (s0 : Int32) (h : gk_H) : Option (Unit × gk_H) :=
if s0 = 0 then
(f_M_substitute_b137 b78 v0 v3 v5 s0 v6 h)
else
(f_M_substitute_b137 b78 v0 v3 v5 s0 (v6 + (1 : Int64)) h)
def f_M_substitute_b120 (b78 : Option Nat → Int64 → Int32 → Int64 → gk_H → Option (Unit × gk_H)) (v0 : Option Nat) (v3 : Int64) (v5 : Int32) (v6 : Int64) (h : gk_H) : Option (Unit × gk_H) :=
f_M_substitute_b121 b78 v0 v3 v5 v6 (0 : Int32) h
def f_M_substitute_b78  : Nat → Option Nat → Int64 → Int32 → Int64 → gk_H → Option (Unit × gk_H)
  | 0 => fun _ _ _ _ _ => none
  | fu + 1 => fun v0 v3 v5 v6 h =>
((gk_get h v0 7 14).bind gk_asR).bind fun x1 =>
((gk_ald h x1 1 (0 : Int32)).bind gk_asI).bind fun x2 =>
if x2 ≤ v5 then
(f_M_substitute_b225 h)
else
(((gk_get h v0 7 11).bind gk_asI).bind fun x3 =>
if x3 = 0 then
(((gk_get h v0 7 14).bind gk_asR).bind fun x4 =>
((gk_ald h x4 1 (1 : Int32)).bind gk_asI).bind fun x5 =>
if x5 ≤ 0 then
(f_M_substitute_b120 (f_M_substitute_b78 fu) v0 v3 v5 v6 h)
else
(gk_cv h v0 7 (f_M_isAt v0 (0 : Int32) v5 (1 : Int32) h) fun x6 h1 =>
if x6 = 0 then
(f_M_substitute_b120 (f_M_substitute_b78 fu) v0 v3 v5 v6 h1)
else
(f_M_substitute_b121 (f_M_substitute_b78 fu) v0 v3 v5 v6 (1 : Int32) h1)))
else
(f_M_substitute_b225 h))
def f_M_substitute_b56  (v0 : Option Nat) (v3 : Int64) (h : gk_H) : Option (Unit × gk_H) :=
((gk_get h v0 7 11).bind gk_asI).bind fun x1 =>
if x1 ≤ 0 then
(gk_cv h v0 7 (f_M_setSingle v0 (16 : Int32) (2 : Int32) (0x0000000000000000) h) fun _ h1 =>
f_M_substitute_b78 gk_F v0 v3 (0 : Int32) (0 : Int64) h1)
else
(some ((), h))
def f_M_substitute_b32  (v0 : Option Nat) (v2 : Int32) (s0 : Int64) (h : gk_H) : Option (Unit × gk_H) :=
((gk_get h v0 7 11).bind gk_asI).bind fun x1 =>
if x1 = 0 then
(if v2 = (4 : Int32) then
(if 0 ≤ (lg_cmp s0 (1 : Int64)) then
(f_M_substitute_b56 v0 s0 h)
else
(gk_cv h v0 7 (f_M_fail v0 (3 : Int32) h) fun _ h1 =>
f_M_substitute_b56 v0 s0 h1))
else
(f_M_substitute_b56 v0 s0 h))
else
(f_M_substitute_b56 v0 s0 h)
def f_M_substitute (a0 : Option Nat) (a1 : Int32) (a2 : Int32) (h : gk_H) : Option (Unit × gk_H) :=
gk_cv h a0 7 (f_M_wantText a0 (a1 + (1 : Int32)) (1 : Int32) h) fun _ h1 =>
gk_cv h1 a0 7 (f_M_wantText a0 (a1 + (2 : Int32)) (2 : Int32) h1) fun _ h2 =>
if a2 = (4 : Int32) then
(gk_cv h2 a0 7 (f_M_wantWhole a0 (a1 + (3 : Int32)) h2) fun x1 h3 =>
f_M_substitute_b32 a0 a2 x1 h3)
else
(f_M_substitute_b32 a0 a2 (0 : Int64) h2)
def f_M_lookAt_b126   (h : gk_H) : Option (Unit × gk_H) :=
some ((), h)
def f_M_lookAt_b91   (h : gk_H) : Option (Unit × gk_H) :=
some ((), h)
def f_M_lookAt_b45  (s0 : Option Nat) (s1 : Int32) (h : gk_H) : Option (Unit × gk_H) :=
gk_cv h s0 7 (f_M_answerTruth s0 s1 h) fun _ h1 =>
some ((), h1)
def f_M_lookAt_b44  (s0 : Option Nat) (h : gk_H) : Option (Unit × gk_H) :=
f_M_lookAt_b45 s0 (0 : Int32) h
def f_M_lookAt (a0 : Option Nat) (a1 : Int32) (a2 : Int32) (h : gk_H) : Option (Unit × gk_H) :=
if a1 = (70 : Int32) then
(gk_cv h a0 7 (f_M_wantText a0 (a2 + (1 : Int32)) (1 : Int32) h) fun _ h1 =>
((gk_get h1 a0 7 14).bind gk_asR).bind fun x1 =>
((gk_ald h1 x1 1 (0 : Int32)).bind gk_asI).bind fun x2 =>
((gk_get h1 a0 7 14).bind gk_asR).bind fun x3 =>
((gk_ald h1 x3 1 (1 : Int32)).bind gk_asI).bind fun x4 =>
if x2 = x4 then
(gk_cv h1 a0 7 (f_M_isAt a0 (0 : Int32) (0 : Int32) (1 : Int32) h1) fun x5 h2 =>
if x5 = 0 then
(f_M_lookAt_b44 a0 h2)
else
(f_M_lookAt_b45 a0 (1 : Int32) h2))
else
(f_M_lookAt_b44 a0 h1))
else
(((gk_get h a0 7 11).bind gk_asI).bind fun x6 =>
if x6 ≤ 0 then
(if a1 = (72 : Int32) then
(((gk_get h a0 7 14).bind gk_asR).bind fun x7 =>
((gk_ald h x7 1 (0 : Int32)).bind gk_asI).bind fun x8 =>
if x8 = 0 then
(gk_cv h a0 7 (f_M_fail a0 (3 : Int32) h) fun _ h3 =>
f_M_lookAt_b91 h3)
else
(((gk_get h a0 7 15).bind gk_asR).bind fun x9 =>
((gk_ald h x9 3 (0 : Int32)).bind gk_asI).bind fun x10 =>
gk_cv h a0 7 (f_M_answerNumber a0 (FP.i2d x10) h) fun _ h4 =>
f_M_lookAt_b91 h4))
else
(((gk_get h a0 7 15).bind gk_asR).bind fun x11 =>
((gk_get h a0 7 14).bind gk_asR).bind fun x12 =>
((gk_ald h x12 1 (0 : Int32)).bind gk_asI).bind fun x13 =>
gk_cv h a0 7 (f_M_isNumeral a0 x11 (0 : Int32) x13 h) fun x14 h5 =>
if x14 = 0 then
(gk_cv h5 a0 7 (f_M_fail a0 (3 : Int32) h5) fun _ h6 =>
f_M_lookAt_b126 h6)
else
(((gk_get h5 a0 7 16).bind gk_asD).bind fun x15 =>
gk_cv h5 a0 7 (f_M_answerNumber a0 x15 h5) fun _ h7 =>
f_M_lookAt_b126 h7)))
else
(some ((), h)))
def f_M_letters_b230 (b20 : Option Nat → Int32 → Int32 → Int32 → gk_H → Option (Unit × gk_H)) (v0 : Option Nat) (v1 : Int32) (v3 : Int32) (v6 : Int32) (h : gk_H) : Option (Unit × gk_H) :=
gk_let (v3 + (1 : Int32)) fun x1 =>
b20 v0 v1 v6 x1 h
def f_M_letters_b227 (b20 : Option Nat → Int32 → Int32 → Int32 → gk_H → Option (Unit × gk_H)) (v0 : Option Nat) (v1 : Int32) (v3 : Int32) (v6 : Int32) (s0 : Option Nat) (s1 : Int32) (h : gk_H) : Option (Unit × gk_H) :=
gk_cv h s0 7 (f_M_add s0 s1 h) fun _ h1 =>
f_M_letters_b230 b20 v0 v1 v3 v6 h1
def f_M_letters_b190 (b20 : Option Nat → Int32 → Int32 → Int32 → gk_H → Option (Unit × gk_H)) (v0 : Option Nat) (v1 : Int32) (v3 : Int32) (v6 : Int32) (h : gk_H) : Option (Unit × gk_H) :=
f_M_letters_b230 b20 v0 v1 v3 v6 h
def f_M_letters_b177 (b20 : Option Nat → Int32 → Int32 → Int32 → gk_H → Option (Unit × gk_H)) (v0 : Option Nat) (v1 : Int32) (v3 : Int32) (v4 : Int32) (v6 : Int32) (s0 : Int32) (h : gk_H) : Option (Unit × gk_H) :=
if s0 = 0 then
(gk_cv h v0 7 (f_M_add v0 v4 h) fun _ h1 =>
f_M_letters_b190 b20 v0 v1 v3 v6 h1)
else
(f_M_letters_b190 b20 v0 v1 v3 v6 h)
def f_M_letters_b176 (b20 : Option Nat → Int32 → Int32 → Int32 → gk_H → Option (Unit × gk_H)) (v0 : Option Nat) (v1 : Int32) (v3 : Int32) (v4 : Int32) (v6 : Int32) (h : gk_H) : Option (Unit × gk_H) :=
f_M_letters_b177 b20 v0 v1 v3 v4 v6 (0 : Int32) h
def f_M_letters_b172 (b20 : Option Nat → Int32 → Int32 → Int32 → gk_H → Option (Unit × gk_H)) (v0 : Option Nat) (v1 : Int32) (v3 : Int32) (v4 : Int32) (v6 : Int32) (h : gk_H) : Option (Unit × gk_H) :=
f_M_letters_b177 b20 v0 v1 v3 v4 v6 (1 : Int32) h
def f_M_letters_b128 (b20 : Option Nat → Int32 → Int32 → Int32 → gk_H → Option (Unit × gk_H)) (b95 : Option Nat → Int32 → Int32 → Int32 → Int32 → Int32 → Int32 → gk_H → Option (Unit × gk_H)) (v0 : Option Nat) (v1 : Int32) (v3 : Int32) (v4 : Int32) (v6 : Int32) (v9 : Int32) (s0 : Int32) (h : gk_H) : Option (Unit × gk_H) :=
gk_let (v9 + (1 : Int32)) fun x1 =>
b95 v0 v1 v3 v4 v6 s0 x1 h
def f_M_letters_b127 (b20 : Option Nat → Int32 → Int32 → Int32 → gk_H → Option (Unit × gk_H)) (b95 : Option Nat → Int32 → Int32 → Int32 → Int32 → Int32 → Int32 → gk_H → Option (Unit × gk_H)) (v0 : Option Nat) (v1 : Int32) (v3 : Int32) (v4 : Int32) (v6 : Int32) (v9 : Int32) (h : gk_H) : Option (Unit × gk_H) :=
f_M_letters_b128 b20 b95 v0 v1 v3 v4 v6 v9 (0 : Int32) h
def f_M_letters_b95 (b20 : Option Nat → Int32 → Int32 → Int32 → gk_H → Option (Unit × gk_H)) : Nat → Option Nat → Int32 → Int32 → Int32 → Int32 → Int32 → Int32 → gk_H → Option (Unit × gk_H)
  | 0 => fun _ _ _ _ _ _ _ _ => none
  | fu + 1 => fun v0 v1 v3 v4 v6 v8 v9 h =>
((gk_get h v0 7 14).bind gk_asR).bind fun x1 =>
((gk_ald h x1 1 (0 : Int32)).bind gk_asI).bind fun x2 =>
if x2 ≤ v9 then
(if v4 = (32 : Int32) then
(if v8 = 0 then
(((gk_get h v0 7 9).bind gk_asR).bind fun x3 =>
((gk_ald h x3 1 (256 : Int32)).bind gk_asI).bind fun x4 =>
if x4 = 0 then
(f_M_letters_b172 b20 v0 v1 v3 v4 v6 h)
else
(((gk_get h v0 7 15).bind gk_asR).bind fun x5 =>
((gk_ald h x5 3 (v3 - (1 : Int32))).bind gk_asI).bind fun x6 =>
if x6 = (32 : Int32) then
(f_M_letters_b172 b20 v0 v1 v3 v4 v6 h)
else
(f_M_letters_b176 b20 v0 v1 v3 v4 v6 h)))
else
(f_M_letters_b172 b20 v0 v1 v3 v4 v6 h))
else
(f_M_letters_b176 b20 v0 v1 v3 v4 v6 h))
else
(if v8 = 0 then
(f_M_letters_b127 b20 (f_M_letters_b95 b20 fu) v0 v1 v3 v4 v6 v9 h)
else
(((gk_get h v0 7 15).bind gk_asR).bind fun x7 =>
((gk_ald h x7 3 v9).bind gk_asI).bind fun x8 =>
if x8 = (32 : Int32) then
(f_M_letters_b128 b20 (f_M_letters_b95 b20 fu) v0 v1 v3 v4 v6 v9 (1 : Int32) h)
else
(f_M_letters_b127 b20 (f_M_letters_b95 b20 fu) v0 v1 v3 v4 v6 v9 h)))
def f_M_letters_b81 (b20 : Option Nat → Int32 → Int32 → Int32 → gk_H → Option (Unit × gk_H)) (v0 : Option Nat) (v1 : Int32) (v2 : Int32) (v3 : Int32) (v4 : Int32) (v5 : Int32) (v6 : Int32) (s0 : Int32) (h : gk_H) : Option (Unit × gk_H) :=
if v1 = (63 : Int32) then
(f_M_letters_b95 b20 gk_F v0 v1 v3 v4 v6 (1 : Int32) v3 h)
else
(if v1 = (60 : Int32) then
(f_M_letters_b227 b20 v0 v1 v3 v6 v0 v5 h)
else
(if v1 = (61 : Int32) then
(f_M_letters_b227 b20 v0 v1 v3 v6 v0 s0 h)
else
(if v2 = 0 then
(f_M_letters_b227 b20 v0 v1 v3 v6 v0 v5 h)
else
(f_M_letters_b227 b20 v0 v1 v3 v6 v0 s0 h))))
def f_M_letters_b64 (b20 : Option Nat → Int32 → Int32 → Int32 → gk_H → Option (Unit × gk_H)) (v0 : Option Nat) (v1 : Int32) (v2 : Int32) (v3 : Int32) (v4 : Int32) (v5 : Int32) (s0 : Int32) (h : gk_H) : Option (Unit × gk_H) :=
if s0 = 0 then
(f_M_letters_b81 b20 v0 v1 v2 v3 v4 v5 s0 v4 h)
else
(f_M_letters_b81 b20 v0 v1 v2 v3 v4 v5 s0 (v5 + (32 : Int32)) h)
def f_M_letters_b63 (b20 : Option Nat → Int32 → Int32 → Int32 → gk_H → Option (Unit × gk_H)) (v0 : Option Nat) (v1 : Int32) (v2 : Int32) (v3 : Int32) (v4 : Int32) (v5 : Int32) (h : gk_H) : Option (Unit × gk_H) :=
f_M_letters_b64 b20 v0 v1 v2 v3 v4 v5 (0 : Int32) h
def f_M_letters_b20  : Nat → Option Nat → Int32 → Int32 → Int32 → gk_H → Option (Unit × gk_H)
  | 0 => fun _ _ _ _ _ => none
  | fu + 1 => fun v0 v1 v2 v3 h =>
((gk_get h v0 7 14).bind gk_asR).bind fun x1 =>
((gk_ald h x1 1 (0 : Int32)).bind gk_asI).bind fun x2 =>
if x2 ≤ v3 then
(some ((), h))
else
(((gk_get h v0 7 15).bind gk_asR).bind fun x3 =>
((gk_ald h x3 3 v3).bind gk_asI).bind fun x4 =>
gk_ca (f_M_great x4 h) fun x5 h1 =>
if x5 < (65 : Int32) then
(f_M_letters_b63 (f_M_letters_b20 fu) v0 v1 v2 v3 x4 x5 h1)
else
(if (90 : Int32) < x5 then
(f_M_letters_b63 (f_M_letters_b20 fu) v0 v1 v2 v3 x4 x5 h1)
else
(f_M_letters_b64 (f_M_letters_b20 fu) v0 v1 v2 v3 x4 x5 (1 : Int32) h1)))
def f_M_letters (a0 : Option Nat) (a1 : Int32) (h : gk_H) : Option (Unit × gk_H) :=
((gk_get h a0 7 11).bind gk_asI).bind fun x1 =>
if x1 ≤ 0 then
(gk_cv h a0 7 (f_M_setSingle a0 (16 : Int32) (2 : Int32) (0x0000000000000000) h) fun _ h1 =>
f_M_letters_b20 gk_F a0 a1 (0 : Int32) (0 : Int32) h1)
else
(some ((), h))
def f_M_search_b163  (v0 : Option Nat) (v7 : Int32) (h : gk_H) : Option (Unit × gk_H) :=
gk_cv h v0 7 (f_M_answerNumber v0 (FP.i2d v7) h) fun _ h1 =>
some ((), h1)
def f_M_search_b153  (v0 : Option Nat) (v7 : Int32) (h : gk_H) : Option (Unit × gk_H) :=
if v7 = 0 then
(gk_cv h v0 7 (f_M_fail v0 (3 : Int32) h) fun _ h1 =>
f_M_search_b163 v0 v7 h1)
else
(f_M_search_b163 v0 v7 h)
def f_M_search_b142 (b49 : Option Nat → Int32 → Int32 → Int32 → Int64 → gk_H → Option (Unit × gk_H)) (v0 : Option Nat) (v1 : Int32) (v6 : Int32) (v8 : Int64) (s0 : Int32) (h : gk_H) : Option (Unit × gk_H) :=
gk_let (v8 + (1 : Int64)) fun x1 =>
b49 v0 v1 v6 s0 x1 h
def f_M_search_b127 (b49 : Option Nat → Int32 → Int32 → Int32 → Int64 → gk_H → Option (Unit × gk_H)) (v0 : Option Nat) (v1 : Int32) (v6 : Int32) (v7 : Int32) (v8 : Int64) (s0 : Int32) (h : gk_H) : Option (Unit × gk_H) :=
if s0 = 0 then
(f_M_search_b142 b49 v0 v1 v6 v8 v7 h)
else
(f_M_search_b142 b49 v0 v1 v6 v8 (Int64.toInt32 v8) h)
def f_M_search_b49  : Nat → Option Nat → Int32 → Int32 → Int32 → Int64 → gk_H → Option (Unit × gk_H)
  | 0 => fun _ _ _ _ _ _ => none
  | fu + 1 => fun v0 v1 v6 v7 v8 h =>
if (lg_cmp v8 (1 : Int64)) < 0 then
(f_M_search_b153 v0 v7 h)
else
(if 0 < (lg_cmp v8 (Int32.toInt64 (v6 + (1 : Int32)))) then
(f_M_search_b153 v0 v7 h)
else
(if v7 = 0 then
(gk_let ((Int64.toInt32 v8) - (1 : Int32)) fun x1 =>
if v1 = (68 : Int32) then
(gk_cv h v0 7 (f_M_isAt v0 (1 : Int32) x1 (0 : Int32) h) fun x2 h1 =>
f_M_search_b127 (f_M_search_b49 fu) v0 v1 v6 v7 v8 x2 h1)
else
(((gk_get h v0 7 15).bind gk_asR).bind fun x3 =>
((gk_get h v0 7 15).bind gk_asR).bind fun x4 =>
((gk_get h v0 7 14).bind gk_asR).bind fun x5 =>
((gk_ald h x5 1 (0 : Int32)).bind gk_asI).bind fun x6 =>
gk_cv h v0 7 (f_M_isLike v0 x3 ((256 : Int32) + x1) (v6 - x1) x4 (0 : Int32) x6 (1 : Int32) h) fun x7 h2 =>
f_M_search_b127 (f_M_search_b49 fu) v0 v1 v6 v7 v8 x7 h2))
else
(f_M_search_b153 v0 v7 h)))
def f_M_search_b24  (v0 : Option Nat) (v1 : Int32) (s0 : Int64) (h : gk_H) : Option (Unit × gk_H) :=
((gk_get h v0 7 11).bind gk_asI).bind fun x1 =>
if x1 ≤ 0 then
(((gk_get h v0 7 14).bind gk_asR).bind fun x2 =>
((gk_ald h x2 1 (1 : Int32)).bind gk_asI).bind fun x3 =>
f_M_search_b49 gk_F v0 v1 x3 (0 : Int32) s0 h)
else
(some ((), h))
def f_M_search (a0 : Option Nat) (a1 : Int32) (a2 : Int32) (a3 : Int32) (h : gk_H) : Option (Unit × gk_H) :=
gk_cv h a0 7 (f_M_wantText a0 (a2 + (1 : Int32)) (1 : Int32) h) fun _ h1 =>
if a3 = (3 : Int32) then
(gk_cv h1 a0 7 (f_M_wantWhole a0 (a2 + (2 : Int32)) h1) fun x1 h2 =>
f_M_search_b24 a0 a1 x1 h2)
else
(f_M_search_b24 a0 a1 (1 : Int64) h1)
def f_M_parts_b373   (h : gk_H) : Option (Unit × gk_H) :=
some ((), h)
def f_M_parts_b335  (v0 : Option Nat) (v4 : Int64) (v6 : Int64) (v9 : Int32) (h : gk_H) : Option (Unit × gk_H) :=
gk_cv h v0 7 (f_M_addPart v0 (0 : Int32) (0 : Int64) (v4 - (1 : Int64)) h) fun _ h1 =>
((gk_get h1 v0 7 14).bind gk_asR).bind fun x1 =>
((gk_ald h1 x1 1 (1 : Int32)).bind gk_asI).bind fun x2 =>
gk_cv h1 v0 7 (f_M_addPart v0 (1 : Int32) (0 : Int64) (Int32.toInt64 x2) h1) fun _ h2 =>
gk_cv h2 v0 7 (f_M_addPart v0 (0 : Int32) ((v4 - (1 : Int64)) + v6) (Int32.toInt64 v9) h2) fun _ h3 =>
f_M_parts_b373 h3
def f_M_parts_b244  (v9 : Int32) (s0 : Option Nat) (s1 : Int32) (s2 : Int64) (h : gk_H) : Option (Unit × gk_H) :=
gk_cv h s0 7 (f_M_addPart s0 s1 s2 (Int32.toInt64 v9) h) fun _ h1 =>
f_M_parts_b373 h1
def f_M_parts_b332   (h : gk_H) : Option (Unit × gk_H) :=
f_M_parts_b373 h
def f_M_parts_b294  : Nat → Option Nat → Int64 → Int32 → Int64 → gk_H → Option (Unit × gk_H)
  | 0 => fun _ _ _ _ _ => none
  | fu + 1 => fun v0 v4 v9 v10 h =>
if 0 ≤ (lg_cmp v10 v4) then
(f_M_parts_b332 h)
else
(if v9 ≤ 0 then
(f_M_parts_b332 h)
else
(((gk_get h v0 7 11).bind gk_asI).bind fun x1 =>
if x1 = 0 then
(gk_cv h v0 7 (f_M_addPart v0 (0 : Int32) (0 : Int64) (Int32.toInt64 v9) h) fun _ h1 =>
gk_let (v10 + (1 : Int64)) fun x2 =>
(f_M_parts_b294 fu) v0 v4 v9 x2 h1)
else
(f_M_parts_b332 h)))
def f_M_parts_b291  (v0 : Option Nat) (v4 : Int64) (v9 : Int32) (h : gk_H) : Option (Unit × gk_H) :=
f_M_parts_b294 gk_F v0 v4 v9 (0 : Int64) h
def f_M_parts_b135  (v0 : Option Nat) (v1 : Int32) (v4 : Int64) (v6 : Int64) (h : gk_H) : Option (Unit × gk_H) :=
((gk_get h v0 7 11).bind gk_asI).bind fun x1 =>
if x1 ≤ 0 then
(gk_cv h v0 7 (f_M_setSingle v0 (16 : Int32) (2 : Int32) (0x0000000000000000) h) fun _ h1 =>
((gk_get h1 v0 7 14).bind gk_asR).bind fun x2 =>
((gk_ald h1 x2 1 (0 : Int32)).bind gk_asI).bind fun x3 =>
if v1 = (57 : Int32) then
(gk_cv h1 v0 7 (f_M_addPart v0 (0 : Int32) (0 : Int64) v4 h1) fun _ h2 =>
f_M_parts_b373 h2)
else if v1 = (58 : Int32) then
(if 0 ≤ (lg_cmp v4 (Int32.toInt64 x3)) then
(f_M_parts_b244 x3 v0 (0 : Int32) (0 : Int64) h1)
else
(f_M_parts_b244 x3 v0 (0 : Int32) ((Int32.toInt64 x3) - v4) h1))
else if v1 = (59 : Int32) then
(gk_cv h1 v0 7 (f_M_addPart v0 (0 : Int32) (v4 - (1 : Int64)) ((v4 - (1 : Int64)) + v6) h1) fun _ h3 =>
f_M_parts_b373 h3)
else if v1 = (60 : Int32) then
(f_M_parts_b335 v0 v4 v6 x3 h1)
else if v1 = (61 : Int32) then
(f_M_parts_b335 v0 v4 v6 x3 h1)
else if v1 = (62 : Int32) then
(f_M_parts_b335 v0 v4 v6 x3 h1)
else if v1 = (63 : Int32) then
(f_M_parts_b335 v0 v4 v6 x3 h1)
else if v1 = (64 : Int32) then
(f_M_parts_b335 v0 v4 v6 x3 h1)
else if v1 = (65 : Int32) then
(if x3 ≤ 0 then
(f_M_parts_b291 v0 v4 x3 h1)
else
(if (lg_cmp v4 (255 : Int64)) ≤ 0 then
(f_M_parts_b291 v0 v4 x3 h1)
else
(gk_cv h1 v0 7 (f_M_fail v0 (3 : Int32) h1) fun _ h4 =>
f_M_parts_b291 v0 v4 x3 h4)))
else 
(f_M_parts_b335 v0 v4 v6 x3 h1))
else
(some ((), h))
def f_M_parts_b130  (v0 : Option Nat) (v1 : Int32) (v4 : Int64) (v6 : Int64) (h : gk_H) : Option (Unit × gk_H) :=
gk_cv h v0 7 (f_M_fail v0 (3 : Int32) h) fun _ h1 =>
f_M_parts_b135 v0 v1 v4 v6 h1
def f_M_parts_b92  (v0 : Option Nat) (v1 : Int32) (v4 : Int64) (v6 : Int64) (s0 : Int32) (h : gk_H) : Option (Unit × gk_H) :=
((gk_get h v0 7 11).bind gk_asI).bind fun x1 =>
if x1 = 0 then
(if s0 = 0 then
(if 0 ≤ (lg_cmp v4 (0 : Int64)) then
(f_M_parts_b135 v0 v1 v4 v6 h)
else
(f_M_parts_b130 v0 v1 v4 v6 h))
else
(if (lg_cmp v4 (1 : Int64)) < 0 then
(f_M_parts_b130 v0 v1 v4 v6 h)
else
(if 0 ≤ (lg_cmp v6 (0 : Int64)) then
(f_M_parts_b135 v0 v1 v4 v6 h)
else
(f_M_parts_b130 v0 v1 v4 v6 h))))
else
(f_M_parts_b135 v0 v1 v4 v6 h)
def f_M_parts_b87  (v0 : Option Nat) (v1 : Int32) (v4 : Int64) (v6 : Int64) (h : gk_H) : Option (Unit × gk_H) :=
f_M_parts_b92 v0 v1 v4 v6 (1 : Int32) h
def f_M_parts_b75  (v0 : Option Nat) (v1 : Int32) (v4 : Int64) (v6 : Int64) (h : gk_H) : Option (Unit × gk_H) :=
if v1 = (59 : Int32) then
(f_M_parts_b87 v0 v1 v4 v6 h)
else
(if v1 = (67 : Int32) then
(f_M_parts_b87 v0 v1 v4 v6 h)
else
(f_M_parts_b92 v0 v1 v4 v6 (0 : Int32) h))
def f_M_parts_b59  (v0 : Option Nat) (v1 : Int32) (v2 : Int32) (v4 : Int64) (s0 : Int64) (h : gk_H) : Option (Unit × gk_H) :=
if v1 = (67 : Int32) then
(gk_cv h v0 7 (f_M_wantText v0 (v2 + (3 : Int32)) (1 : Int32) h) fun _ h1 =>
f_M_parts_b75 v0 v1 v4 s0 h1)
else
(f_M_parts_b75 v0 v1 v4 s0 h)
def f_M_parts_b48  (v0 : Option Nat) (v1 : Int32) (v2 : Int32) (v4 : Int64) (h : gk_H) : Option (Unit × gk_H) :=
gk_cv h v0 7 (f_M_wantWhole v0 (v2 + (2 : Int32)) h) fun x1 h1 =>
f_M_parts_b59 v0 v1 v2 v4 x1 h1
def f_M_parts_b34  (v0 : Option Nat) (v1 : Int32) (v2 : Int32) (s0 : Int64) (h : gk_H) : Option (Unit × gk_H) :=
if v1 = (59 : Int32) then
(f_M_parts_b48 v0 v1 v2 s0 h)
else
(if v1 = (67 : Int32) then
(f_M_parts_b48 v0 v1 v2 s0 h)
else
(f_M_parts_b59 v0 v1 v2 s0 (0 : Int64) h))
def f_M_parts (a0 : Option Nat) (a1 : Int32) (a2 : Int32) (a3 : Int32) (h : gk_H) : Option (Unit × gk_H) :=
if a1 = (56 : Int32) then
(((gk_get h a0 7 14).bind gk_asR).bind fun x1 =>
((gk_ald h x1 1 (0 : Int32)).bind gk_asI).bind fun x2 =>
gk_cv h a0 7 (f_M_answerNumber a0 (FP.i2d x2) h) fun _ h1 =>
some ((), h1))
else
(if a3 ≤ (1 : Int32) then
(f_M_parts_b34 a0 a1 a2 (1 : Int64) h)
else
(gk_cv h a0 7 (f_M_wantWhole a0 (a2 + (1 : Int32)) h) fun x3 h2 =>
f_M_parts_b34 a0 a1 a2 x3 h2))
def f_M_texts_b194   (h : gk_H) : Option (Unit × gk_H) :=
some ((), h)
def f_M_texts_b127  (v0 : Option Nat) (v1 : Int32) (v2 : Int32) (v3 : Int32) (h : gk_H) : Option (Unit × gk_H) :=
gk_cv h v0 7 (f_M_parts v0 v1 v2 v3 h) fun _ h1 =>
f_M_texts_b194 h1
def f_M_texts_b164  (v0 : Option Nat) (v1 : Int32) (v2 : Int32) (v3 : Int32) (h : gk_H) : Option (Unit × gk_H) :=
gk_cv h v0 7 (f_M_search v0 v1 v2 v3 h) fun _ h1 =>
f_M_texts_b194 h1
def f_M_texts_b102   (h : gk_H) : Option (Unit × gk_H) :=
some ((), h)
def f_M_texts_b80  (v0 : Option Nat) (v4 : Int64) (h : gk_H) : Option (Unit × gk_H) :=
gk_cv h v0 7 (f_M_setSingle v0 (16 : Int32) (2 : Int32) (0x0000000000000000) h) fun _ h1 =>
((gk_get h1 v0 7 11).bind gk_asI).bind fun x1 =>
if x1 = 0 then
(gk_cv h1 v0 7 (f_M_add v0 (Int64.toInt32 v4) h1) fun _ h2 =>
f_M_texts_b102 h2)
else
(f_M_texts_b102 h1)
def f_M_texts_b75  (v0 : Option Nat) (v4 : Int64) (h : gk_H) : Option (Unit × gk_H) :=
gk_cv h v0 7 (f_M_fail v0 (3 : Int32) h) fun _ h1 =>
f_M_texts_b80 v0 v4 h1
def f_M_texts_b9  : Nat → Option Nat → Int32 → Int32 → Int32 → gk_H → Option (Unit × gk_H)
  | 0 => fun _ _ _ _ _ => none
  | fu + 1 => fun v0 v2 v3 v4 h =>
if v3 ≤ v4 then
(gk_cv h v0 7 (f_M_join v0 v3 h) fun _ h1 =>
some ((), h1))
else
(gk_cv h v0 7 (f_M_wantText v0 (v2 + v4) v4 h) fun _ h2 =>
gk_let (v4 + (1 : Int32)) fun x1 =>
(f_M_texts_b9 fu) v0 v2 v3 x1 h2)
def f_M_texts (a0 : Option Nat) (a1 : Int32) (a2 : Int32) (a3 : Int32) (h : gk_H) : Option (Unit × gk_H) :=
if a1 = (64 : Int32) then
(f_M_texts_b9 gk_F a0 a2 a3 (0 : Int32) h)
else
(if a1 = (71 : Int32) then
(gk_cv h a0 7 (f_M_wantWhole a0 a2 h) fun x1 h1 =>
((gk_get h1 a0 7 11).bind gk_asI).bind fun x2 =>
if x2 = 0 then
(if (lg_cmp x1 (32 : Int64)) < 0 then
(f_M_texts_b75 a0 x1 h1)
else
(if (lg_cmp x1 (126 : Int64)) ≤ 0 then
(f_M_texts_b80 a0 x1 h1)
else
(f_M_texts_b75 a0 x1 h1)))
else
(f_M_texts_b80 a0 x1 h1))
else
(gk_cv h a0 7 (f_M_wantText a0 a2 (0 : Int32) h) fun _ h2 =>
if a1 < (60 : Int32) then
(f_M_texts_b127 a0 a1 a2 a3 h2)
else
(if a1 = (65 : Int32) then
(f_M_texts_b127 a0 a1 a2 a3 h2)
else
(if a1 = (67 : Int32) then
(f_M_texts_b127 a0 a1 a2 a3 h2)
else
(if a1 = (66 : Int32) then
(gk_cv h2 a0 7 (f_M_substitute a0 a2 a3 h2) fun _ h3 =>
f_M_texts_b194 h3)
else
(if a1 = (68 : Int32) then
(f_M_texts_b164 a0 a1 a2 a3 h2)
else
(if a1 = (69 : Int32) then
(f_M_texts_b164 a0 a1 a2 a3 h2)
else
(if a1 ≤ (69 : Int32) then
(gk_cv h2 a0 7 (f_M_letters a0 a1 h2) fun _ h4 =>
f_M_texts_b194 h4)
else
(gk_cv h2 a0 7 (f_M_lookAt a0 a1 a2 h2) fun _ h5 =>
f_M_texts_b194 h5)))))))))
def f_M_part_b16 (b6 : Option Nat → Int32 → Int32 → Int32 → Int32 → Int32 → Int32 → Int32 → gk_H → Option (Unit × gk_H)) : Nat → Option Nat → Int32 → Int32 → Int32 → Int32 → Int32 → Int32 → Int32 → Int32 → gk_H → Option (Unit × gk_H)
  | 0 => fun _ _ _ _ _ _ _ _ _ _ => none
  | fu + 1 => fun v0 v1 v2 v3 v4 v5 v6 v7 v8 h =>
if v5 ≤ v8 then
(gk_let (v7 + (1 : Int32)) fun x1 =>
b6 v0 v1 v2 v3 v4 v5 v6 x1 h)
else
(((gk_get h v0 7 6).bind gk_asR).bind fun x2 =>
((gk_ald h x2 1 v1).bind gk_asI).bind fun x3 =>
gk_cv h v0 7 (f_M_copyCell v0 ((((16 : Int32) * v1) + (v7 * x3)) + v8) ((256 : Int32) + v6) h) fun _ h1 =>
gk_let (v6 + (1 : Int32)) fun x4 =>
gk_let (v8 + (1 : Int32)) fun x5 =>
(f_M_part_b16 b6 fu) v0 v1 v2 v3 v4 v5 x4 v7 x5 h1)
def f_M_part_b6  : Nat → Option Nat → Int32 → Int32 → Int32 → Int32 → Int32 → Int32 → Int32 → gk_H → Option (Unit × gk_H)
  | 0 => fun _ _ _ _ _ _ _ _ _ => none
  | fu + 1 => fun v0 v1 v2 v3 v4 v5 v6 v7 h =>
if v3 ≤ v7 then
(((gk_get h v0 7 4).bind gk_asR).bind fun x1 =>
(gk_ast h x1 1 (16 : Int32) (.int (5 : Int32))).bind fun h1 =>
((gk_get h1 v0 7 5).bind gk_asR).bind fun x2 =>
(gk_ast h1 x2 1 (16 : Int32) (.int (v3 - v2))).bind fun h2 =>
((gk_get h2 v0 7 6).bind gk_asR).bind fun x3 =>
(gk_ast h2 x3 1 (16 : Int32) (.int (v5 - v4))).bind fun h3 =>
some ((), h3))
else
(f_M_part_b16 (f_M_part_b6 fu) gk_F v0 v1 v2 v3 v4 v5 v6 v7 v4 h)
def f_M_part (a0 : Option Nat) (a1 : Int32) (a2 : Int32) (a3 : Int32) (a4 : Int32) (a5 : Int32) (h : gk_H) : Option (Unit × gk_H) :=
f_M_part_b6 gk_F a0 a1 a2 a3 a4 a5 (0 : Int32) a2 h
def f_M_index_b129  (v0 : Option Nat) (h : gk_H) : Option (Unit × gk_H) :=
gk_cv h v0 7 (f_M_fail v0 (3 : Int32) h) fun _ h1 =>
some ((), h1)
def f_M_index_b161  (v0 : Option Nat) (h : gk_H) : Option (Unit × gk_H) :=
gk_cv h v0 7 (f_M_fail v0 (4 : Int32) h) fun _ h1 =>
some ((), h1)
def f_M_index_b286   (h : gk_H) : Option (Unit × gk_H) :=
some ((), h)
def f_M_index_b283  (s0 : Option Nat) (s1 : Int32) (s2 : Int32) (s3 : Int32) (s4 : Int32) (s5 : Int32) (h : gk_H) : Option (Unit × gk_H) :=
gk_cv h s0 7 (f_M_part s0 s1 s2 s3 s4 s5 h) fun _ h1 =>
f_M_index_b286 h1
def f_M_index_b264  (v0 : Option Nat) (v1 : Int32) (v10 : Int64) (s0 : Option Nat) (s1 : Int32) (s2 : Int32) (s3 : Int32) (s4 : Int32) (h : gk_H) : Option (Unit × gk_H) :=
if (lg_cmp v10 (0 : Int64)) = 0 then
(((gk_get h v0 7 6).bind gk_asR).bind fun x1 =>
((gk_ald h x1 1 v1).bind gk_asI).bind fun x2 =>
f_M_index_b283 s0 s1 s2 s3 s4 x2 h)
else
(f_M_index_b283 s0 s1 s2 s3 s4 (Int64.toInt32 v10) h)
def f_M_index_b248  (v0 : Option Nat) (v1 : Int32) (v10 : Int64) (s0 : Option Nat) (s1 : Int32) (s2 : Int32) (s3 : Int32) (h : gk_H) : Option (Unit × gk_H) :=
if (lg_cmp v10 (0 : Int64)) = 0 then
(f_M_index_b264 v0 v1 v10 s0 s1 s2 s3 (0 : Int32) h)
else
(f_M_index_b264 v0 v1 v10 s0 s1 s2 s3 ((Int64.toInt32 v10) - (1 : Int32)) h)
def f_M_index_b229  (v0 : Option Nat) (v1 : Int32) (v8 : Int64) (v10 : Int64) (s0 : Option Nat) (s1 : Int32) (s2 : Int32) (h : gk_H) : Option (Unit × gk_H) :=
if (lg_cmp v8 (0 : Int64)) = 0 then
(((gk_get h v0 7 5).bind gk_asR).bind fun x1 =>
((gk_ald h x1 1 v1).bind gk_asI).bind fun x2 =>
f_M_index_b248 v0 v1 v10 s0 s1 s2 x2 h)
else
(f_M_index_b248 v0 v1 v10 s0 s1 s2 (Int64.toInt32 v8) h)
def f_M_index_b211  (v0 : Option Nat) (v1 : Int32) (v8 : Int64) (v10 : Int64) (h : gk_H) : Option (Unit × gk_H) :=
if (lg_cmp v8 (0 : Int64)) = 0 then
(f_M_index_b229 v0 v1 v8 v10 v0 v1 (0 : Int32) h)
else
(f_M_index_b229 v0 v1 v8 v10 v0 v1 ((Int64.toInt32 v8) - (1 : Int32)) h)
def f_M_index_b114  (v0 : Option Nat) (v1 : Int32) (v3 : Int64) (v5 : Int64) (v8 : Int64) (s0 : Int64) (h : gk_H) : Option (Unit × gk_H) :=
if (lg_cmp v3 (0 : Int64)) < 0 then
(f_M_index_b129 v0 h)
else
(if 0 ≤ (lg_cmp v5 (0 : Int64)) then
(((gk_get h v0 7 5).bind gk_asR).bind fun x1 =>
((gk_ald h x1 1 v1).bind gk_asI).bind fun x2 =>
if 0 < (lg_cmp v8 (Int32.toInt64 x2)) then
(f_M_index_b161 v0 h)
else
(((gk_get h v0 7 6).bind gk_asR).bind fun x3 =>
((gk_ald h x3 1 v1).bind gk_asI).bind fun x4 =>
if (lg_cmp s0 (Int32.toInt64 x4)) ≤ 0 then
(if (lg_cmp v8 (0 : Int64)) ≤ 0 then
(f_M_index_b211 v0 v1 v8 s0 h)
else
(if (lg_cmp s0 (0 : Int64)) ≤ 0 then
(f_M_index_b211 v0 v1 v8 s0 h)
else
(((gk_get h v0 7 6).bind gk_asR).bind fun x5 =>
((gk_ald h x5 1 v1).bind gk_asI).bind fun x6 =>
gk_cv h v0 7 (f_M_answerCell v0 (((((16 : Int32) * v1) + (((Int64.toInt32 v8) - (1 : Int32)) * x6)) + (Int64.toInt32 s0)) - (1 : Int32)) h) fun _ h1 =>
f_M_index_b286 h1)))
else
(f_M_index_b161 v0 h)))
else
(f_M_index_b129 v0 h))
def f_M_index_b112  (v0 : Option Nat) (v1 : Int32) (v3 : Int64) (v5 : Int64) (v8 : Int64) (h : gk_H) : Option (Unit × gk_H) :=
f_M_index_b114 v0 v1 v3 v5 v8 v5 h
def f_M_index_b76  (v0 : Option Nat) (v1 : Int32) (v2 : Int32) (v3 : Int64) (v5 : Int64) (v7 : Int32) (s0 : Int64) (h : gk_H) : Option (Unit × gk_H) :=
if v7 = 0 then
(if v2 = (2 : Int32) then
(((gk_get h v0 7 6).bind gk_asR).bind fun x1 =>
((gk_ald h x1 1 v1).bind gk_asI).bind fun x2 =>
if x2 = (1 : Int32) then
(if (lg_cmp v3 (0 : Int64)) = 0 then
(f_M_index_b112 v0 v1 v3 v5 s0 h)
else
(f_M_index_b114 v0 v1 v3 v5 s0 (1 : Int64) h))
else
(f_M_index_b112 v0 v1 v3 v5 s0 h))
else
(f_M_index_b112 v0 v1 v3 v5 s0 h))
else
(f_M_index_b114 v0 v1 v3 v5 s0 v3 h)
def f_M_index_b54  (v0 : Option Nat) (v1 : Int32) (v2 : Int32) (v3 : Int64) (v5 : Int64) (s0 : Int32) (h : gk_H) : Option (Unit × gk_H) :=
if s0 = 0 then
(f_M_index_b76 v0 v1 v2 v3 v5 s0 v3 h)
else
(if (lg_cmp v3 (0 : Int64)) = 0 then
(f_M_index_b76 v0 v1 v2 v3 v5 s0 (0 : Int64) h)
else
(f_M_index_b76 v0 v1 v2 v3 v5 s0 (1 : Int64) h))
def f_M_index_b53  (v0 : Option Nat) (v1 : Int32) (v2 : Int32) (v3 : Int64) (v5 : Int64) (h : gk_H) : Option (Unit × gk_H) :=
f_M_index_b54 v0 v1 v2 v3 v5 (0 : Int32) h
def f_M_index_b24  (v0 : Option Nat) (v1 : Int32) (v2 : Int32) (v3 : Int64) (s0 : Int64) (h : gk_H) : Option (Unit × gk_H) :=
((gk_get h v0 7 11).bind gk_asI).bind fun x1 =>
if x1 ≤ 0 then
(if v2 = (2 : Int32) then
(((gk_get h v0 7 5).bind gk_asR).bind fun x2 =>
((gk_ald h x2 1 v1).bind gk_asI).bind fun x3 =>
if x3 = (1 : Int32) then
(f_M_index_b54 v0 v1 v2 v3 s0 (1 : Int32) h)
else
(f_M_index_b53 v0 v1 v2 v3 s0 h))
else
(f_M_index_b53 v0 v1 v2 v3 s0 h))
else
(some ((), h))
def f_M_index (a0 : Option Nat) (a1 : Int32) (a2 : Int32) (h : gk_H) : Option (Unit × gk_H) :=
gk_cv h a0 7 (f_M_wantWhole a0 (a1 + (1 : Int32)) h) fun x1 h1 =>
if a2 = (3 : Int32) then
(gk_cv h1 a0 7 (f_M_wantWhole a0 (a1 + (2 : Int32)) h1) fun x2 h2 =>
f_M_index_b24 a0 a1 a2 x1 x2 h2)
else
(f_M_index_b24 a0 a1 a2 x1 (0 : Int64) h1)
def f_M_match_b157 (b27 : Option Nat → Int32 → Int32 → Int32 → Int32 → Int32 → Int32 → Int32 → Int32 → gk_H → Option (Int32 × gk_H)) (v0 : Option Nat) (v1 : Int32) (v2 : Int32) (v3 : Int32) (v4 : Int32) (v5 : Int32) (v6 : Int32) (v7 : Int32) (v8 : Int32) (h : gk_H) : Option (Int32 × gk_H) :=
gk_let (v8 + (1 : Int32)) fun x1 =>
b27 v0 v1 v2 v3 v4 v5 v6 v7 x1 h
def f_M_match_b120 (b27 : Option Nat → Int32 → Int32 → Int32 → Int32 → Int32 → Int32 → Int32 → Int32 → gk_H → Option (Int32 × gk_H)) (v0 : Option Nat) (v1 : Int32) (v2 : Int32) (v3 : Int32) (v4 : Int32) (v5 : Int32) (v6 : Int32) (v7 : Int32) (v8 : Int32) (s0 : Int32) (h : gk_H) : Option (Int32 × gk_H) :=
if s0 = 0 then
(f_M_match_b157 b27 v0 v1 v2 v3 v4 v5 v6 v7 v8 h)
else
(some (v8, h))
def f_M_match_b27  : Nat → Option Nat → Int32 → Int32 → Int32 → Int32 → Int32 → Int32 → Int32 → Int32 → gk_H → Option (Int32 × gk_H)
  | 0 => fun _ _ _ _ _ _ _ _ _ _ => none
  | fu + 1 => fun v0 v1 v2 v3 v4 v5 v6 v7 v8 h =>
if v3 ≤ v8 then
(some (v7, h))
else
(gk_let (v2 + (v8 * v4)) fun x1 =>
((gk_get h v0 7 7).bind gk_asR).bind fun x2 =>
((gk_ald h x2 1 x1).bind gk_asI).bind fun x3 =>
if x3 = v6 then
(if v5 = 0 then
(if v6 = (2 : Int32) then
(((gk_get h v0 7 10).bind gk_asR).bind fun x4 =>
((gk_get h v0 7 9).bind gk_asR).bind fun x5 =>
((gk_ald h x5 1 x1).bind gk_asI).bind fun x6 =>
((gk_get h v0 7 10).bind gk_asR).bind fun x7 =>
((gk_get h v0 7 9).bind gk_asR).bind fun x8 =>
((gk_ald h x8 1 v1).bind gk_asI).bind fun x9 =>
gk_cv h v0 7 (f_M_isLike v0 x4 ((256 : Int32) * x1) x6 x7 ((256 : Int32) * v1) x9 (0 : Int32) h) fun x10 h1 =>
f_M_match_b120 (f_M_match_b27 fu) v0 v1 v2 v3 v4 v5 v6 v7 v8 x10 h1)
else
(gk_cv h v0 7 (f_M_compareCells v0 x1 v1 h) fun x11 h2 =>
if x11 = 0 then
(f_M_match_b120 (f_M_match_b27 fu) v0 v1 v2 v3 v4 v5 v6 v7 v8 (1 : Int32) h2)
else
(f_M_match_b120 (f_M_match_b27 fu) v0 v1 v2 v3 v4 v5 v6 v7 v8 (0 : Int32) h2)))
else
(gk_cv h v0 7 (f_M_compareCells v0 x1 v1 h) fun x12 h3 =>
gk_let (x12 * v5) fun x13 =>
if x13 ≤ 0 then
(f_M_match_b157 (f_M_match_b27 fu) v0 v1 v2 v3 v4 v5 v6 v8 v8 h3)
else
(some (v7, h3))))
else
(f_M_match_b157 (f_M_match_b27 fu) v0 v1 v2 v3 v4 v5 v6 v7 v8 h))
def f_M_match_b19  (v0 : Option Nat) (v1 : Int32) (v2 : Int32) (v3 : Int32) (v4 : Int32) (v5 : Int32) (s0 : Int32) (h : gk_H) : Option (Int32 × gk_H) :=
f_M_match_b27 gk_F v0 v1 v2 v3 v4 v5 s0 (-1 : Int32) (0 : Int32) h
def f_M_match (a0 : Option Nat) (a1 : Int32) (a2 : Int32) (a3 : Int32) (a4 : Int32) (a5 : Int32) (h : gk_H) : Option (Int32 × gk_H) :=
((gk_get h a0 7 7).bind gk_asR).bind fun x1 =>
((gk_ald h x1 1 a1).bind gk_asI).bind fun x2 =>
if x2 = 0 then
(f_M_match_b19 a0 a1 a2 a3 a4 a5 (1 : Int32) h)
else
(((gk_get h a0 7 7).bind gk_asR).bind fun x3 =>
((gk_ald h x3 1 a1).bind gk_asI).bind fun x4 =>
f_M_match_b19 a0 a1 a2 a3 a4 a5 x4 h)
def f_M_transpose_b14 (b2 : Option Nat → Int32 → Int32 → gk_H → Option (Unit × gk_H)) : Nat → Option Nat → Int32 → Int32 → Int32 → gk_H → Option (Unit × gk_H)
  | 0 => fun _ _ _ _ _ => none
  | fu + 1 => fun v0 v1 v2 v3 h =>
((gk_get h v0 7 6).bind gk_asR).bind fun x1 =>
((gk_ald h x1 1 v1).bind gk_asI).bind fun x2 =>
if x2 ≤ v3 then
(gk_let (v2 + (1 : Int32)) fun x3 =>
b2 v0 v1 x3 h)
else
(((gk_get h v0 7 6).bind gk_asR).bind fun x4 =>
((gk_ald h x4 1 v1).bind gk_asI).bind fun x5 =>
((gk_get h v0 7 5).bind gk_asR).bind fun x6 =>
((gk_ald h x6 1 v1).bind gk_asI).bind fun x7 =>
gk_cv h v0 7 (f_M_copyCell v0 ((((16 : Int32) * v1) + (v2 * x5)) + v3) (((256 : Int32) + (v3 * x7)) + v2) h) fun _ h1 =>
gk_let (v3 + (1 : Int32)) fun x8 =>
(f_M_transpose_b14 b2 fu) v0 v1 v2 x8 h1)
def f_M_transpose_b2  : Nat → Option Nat → Int32 → Int32 → gk_H → Option (Unit × gk_H)
  | 0 => fun _ _ _ _ => none
  | fu + 1 => fun v0 v1 v2 h =>
((gk_get h v0 7 5).bind gk_asR).bind fun x1 =>
((gk_ald h x1 1 v1).bind gk_asI).bind fun x2 =>
if x2 ≤ v2 then
(((gk_get h v0 7 4).bind gk_asR).bind fun x3 =>
(gk_ast h x3 1 (16 : Int32) (.int (5 : Int32))).bind fun h1 =>
((gk_get h1 v0 7 5).bind gk_asR).bind fun x4 =>
((gk_get h1 v0 7 6).bind gk_asR).bind fun x5 =>
((gk_ald h1 x5 1 v1).bind gk_asI).bind fun x6 =>
(gk_ast h1 x4 1 (16 : Int32) (.int x6)).bind fun h2 =>
((gk_get h2 v0 7 6).bind gk_asR).bind fun x7 =>
((gk_get h2 v0 7 5).bind gk_asR).bind fun x8 =>
((gk_ald h2 x8 1 v1).bind gk_asI).bind fun x9 =>
(gk_ast h2 x7 1 (16 : Int32) (.int x9)).bind fun h3 =>
some ((), h3))
else
(f_M_transpose_b14 (f_M_transpose_b2 fu) gk_F v0 v1 v2 (0 : Int32) h)
def f_M_transpose (a0 : Option Nat) (a1 : Int32) (h : gk_H) : Option (Unit × gk_H) :=
f_M_transpose_b2 gk_F a0 a1 (0 : Int32) h
def f_M_lookup_b125  (s0 : Option Nat) (s1 : Int32) (h : gk_H) : Option (Unit × gk_H) :=
gk_cv h s0 7 (f_M_fail s0 s1 h) fun _ h1 =>
some ((), h1)
def f_M_lookup_b112  (v0 : Option Nat) (v5 : Int64) (h : gk_H) : Option (Unit × gk_H) :=
if 0 ≤ (lg_cmp v5 (1 : Int64)) then
(f_M_lookup_b125 v0 (4 : Int32) h)
else
(f_M_lookup_b125 v0 (3 : Int32) h)
def f_M_lookup_b223  (s0 : Option Nat) (s1 : Int32) (s2 : Int32) (h : gk_H) : Option (Unit × gk_H) :=
gk_cv h s0 7 (f_M_answerCell s0 (s1 + s2) h) fun _ h1 =>
some ((), h1)
def f_M_lookup_b170  (v0 : Option Nat) (v1 : Int32) (v2 : Int32) (v5 : Int64) (v10 : Int32) (s0 : Option Nat) (s1 : Int32) (s2 : Int32) (s3 : Int32) (s4 : Int32) (s5 : Int32) (h : gk_H) : Option (Unit × gk_H) :=
gk_cv h s0 7 (f_M_match s0 s1 s2 s3 s4 s5 h) fun x1 h1 =>
if 0 ≤ x1 then
(if v1 = 0 then
(f_M_lookup_b223 v0 ((16 : Int32) * (v2 + (1 : Int32))) ((((Int64.toInt32 v5) - (1 : Int32)) * v10) + x1) h1)
else
(f_M_lookup_b223 v0 ((16 : Int32) * (v2 + (1 : Int32))) (((x1 * v10) + (Int64.toInt32 v5)) - (1 : Int32)) h1))
else
(gk_cv h1 v0 7 (f_M_fail v0 (7 : Int32) h1) fun _ h2 =>
some ((), h2))
def f_M_lookup_b160  (v0 : Option Nat) (v1 : Int32) (v2 : Int32) (v5 : Int64) (v7 : Int32) (v10 : Int32) (s0 : Option Nat) (s1 : Int32) (s2 : Int32) (s3 : Int32) (s4 : Int32) (h : gk_H) : Option (Unit × gk_H) :=
if v7 = 0 then
(f_M_lookup_b170 v0 v1 v2 v5 v10 s0 s1 s2 s3 s4 (0 : Int32) h)
else
(f_M_lookup_b170 v0 v1 v2 v5 v10 s0 s1 s2 s3 s4 (1 : Int32) h)
def f_M_lookup_b94  (v0 : Option Nat) (v1 : Int32) (v2 : Int32) (v4 : Int32) (v5 : Int64) (v7 : Int32) (v8 : Int32) (s0 : Int32) (h : gk_H) : Option (Unit × gk_H) :=
if (lg_cmp v5 (1 : Int64)) < 0 then
(f_M_lookup_b112 v0 v5 h)
else
(if (lg_cmp v5 (Int32.toInt64 s0)) ≤ 0 then
(((gk_get h v0 7 6).bind gk_asR).bind fun x1 =>
((gk_ald h x1 1 (v2 + (1 : Int32))).bind gk_asI).bind fun x2 =>
if v1 = 0 then
(f_M_lookup_b160 v0 v1 v2 v5 v7 x2 v0 v4 ((16 : Int32) * (v2 + (1 : Int32))) v8 (1 : Int32) h)
else
(f_M_lookup_b160 v0 v1 v2 v5 v7 x2 v0 v4 ((16 : Int32) * (v2 + (1 : Int32))) v8 x2 h))
else
(f_M_lookup_b112 v0 v5 h))
def f_M_lookup_b69  (v0 : Option Nat) (v1 : Int32) (v2 : Int32) (v4 : Int32) (v5 : Int64) (v7 : Int32) (s0 : Int32) (h : gk_H) : Option (Unit × gk_H) :=
if v1 = 0 then
(((gk_get h v0 7 5).bind gk_asR).bind fun x1 =>
((gk_ald h x1 1 (v2 + (1 : Int32))).bind gk_asI).bind fun x2 =>
f_M_lookup_b94 v0 v1 v2 v4 v5 v7 s0 x2 h)
else
(((gk_get h v0 7 6).bind gk_asR).bind fun x3 =>
((gk_ald h x3 1 (v2 + (1 : Int32))).bind gk_asI).bind fun x4 =>
f_M_lookup_b94 v0 v1 v2 v4 v5 v7 s0 x4 h)
def f_M_lookup_b36  (v0 : Option Nat) (v1 : Int32) (v2 : Int32) (v4 : Int32) (v5 : Int64) (s0 : Int32) (h : gk_H) : Option (Unit × gk_H) :=
((gk_get h v0 7 11).bind gk_asI).bind fun x1 =>
if x1 ≤ 0 then
(if v1 = 0 then
(((gk_get h v0 7 6).bind gk_asR).bind fun x2 =>
((gk_ald h x2 1 (v2 + (1 : Int32))).bind gk_asI).bind fun x3 =>
f_M_lookup_b69 v0 v1 v2 v4 v5 s0 x3 h)
else
(((gk_get h v0 7 5).bind gk_asR).bind fun x4 =>
((gk_ald h x4 1 (v2 + (1 : Int32))).bind gk_asI).bind fun x5 =>
f_M_lookup_b69 v0 v1 v2 v4 v5 s0 x5 h))
else
(some ((), h))
def f_M_lookup_b31  (v0 : Option Nat) (v1 : Int32) (v2 : Int32) (v4 : Int32) (v5 : Int64) (h : gk_H) : Option (Unit × gk_H) :=
f_M_lookup_b36 v0 v1 v2 v4 v5 (1 : Int32) h
def f_M_lookup (a0 : Option Nat) (a1 : Int32) (a2 : Int32) (a3 : Int32) (h : gk_H) : Option (Unit × gk_H) :=
gk_cv h a0 7 (f_M_wantAny a0 a2 h) fun x1 h1 =>
gk_cv h1 a0 7 (f_M_wantWhole a0 (a2 + (2 : Int32)) h1) fun x2 h2 =>
if a3 < (4 : Int32) then
(f_M_lookup_b31 a0 a1 a2 x1 x2 h2)
else
(gk_cv h2 a0 7 (f_M_wantTruth a0 (a2 + (3 : Int32)) h2) fun x3 h3 =>
if x3 = 0 then
(f_M_lookup_b36 a0 a1 a2 x1 x2 (0 : Int32) h3)
else
(f_M_lookup_b31 a0 a1 a2 x1 x2 h3))
def f_M_lookups_b230   (h : gk_H) : Option (Unit × gk_H) :=
some ((), h)
def f_M_lookups_b225  (v2 : Int32) (v3 : Int32) (s0 : Option Nat) (s1 : Int32) (h : gk_H) : Option (Unit × gk_H) :=
gk_cv h s0 7 (f_M_lookup s0 s1 v2 v3 h) fun _ h1 =>
f_M_lookups_b230 h1
def f_M_lookups_b187  (v0 : Option Nat) (v7 : Int32) (h : gk_H) : Option (Unit × gk_H) :=
gk_cv h v0 7 (f_M_answerNumber v0 (FP.i2d (v7 + (1 : Int32))) h) fun _ h1 =>
f_M_lookups_b230 h1
def f_M_lookups_b171  (v0 : Option Nat) (s0 : Option Nat) (s1 : Int32) (s2 : Int32) (s3 : Int32) (s4 : Int32) (s5 : Int32) (h : gk_H) : Option (Unit × gk_H) :=
gk_cv h s0 7 (f_M_match s0 s1 s2 s3 s4 s5 h) fun x1 h1 =>
if 0 ≤ x1 then
(f_M_lookups_b187 v0 x1 h1)
else
(gk_cv h1 v0 7 (f_M_fail v0 (7 : Int32) h1) fun _ h2 =>
f_M_lookups_b187 v0 x1 h2)
def f_M_lookups_b121  (v0 : Option Nat) (v2 : Int32) (v4 : Int32) (v5 : Int64) (h : gk_H) : Option (Unit × gk_H) :=
((gk_get h v0 7 5).bind gk_asR).bind fun x1 =>
((gk_ald h x1 1 (v2 + (1 : Int32))).bind gk_asI).bind fun x2 =>
((gk_get h v0 7 6).bind gk_asR).bind fun x3 =>
((gk_ald h x3 1 (v2 + (1 : Int32))).bind gk_asI).bind fun x4 =>
if 0 ≤ (lg_cmp v5 (0 : Int64)) then
(if (lg_cmp v5 (0 : Int64)) ≤ 0 then
(f_M_lookups_b171 v0 v0 v4 ((16 : Int32) * (v2 + (1 : Int32))) (x2 * x4) (1 : Int32) (0 : Int32) h)
else
(f_M_lookups_b171 v0 v0 v4 ((16 : Int32) * (v2 + (1 : Int32))) (x2 * x4) (1 : Int32) (1 : Int32) h))
else
(f_M_lookups_b171 v0 v0 v4 ((16 : Int32) * (v2 + (1 : Int32))) (x2 * x4) (1 : Int32) (-1 : Int32) h)
def f_M_lookups_b80  (v0 : Option Nat) (v2 : Int32) (v4 : Int32) (s0 : Int64) (h : gk_H) : Option (Unit × gk_H) :=
((gk_get h v0 7 11).bind gk_asI).bind fun x1 =>
if x1 ≤ 0 then
(((gk_get h v0 7 5).bind gk_asR).bind fun x2 =>
((gk_ald h x2 1 (v2 + (1 : Int32))).bind gk_asI).bind fun x3 =>
if x3 ≤ (1 : Int32) then
(f_M_lookups_b121 v0 v2 v4 s0 h)
else
(((gk_get h v0 7 6).bind gk_asR).bind fun x4 =>
((gk_ald h x4 1 (v2 + (1 : Int32))).bind gk_asI).bind fun x5 =>
if x5 ≤ (1 : Int32) then
(f_M_lookups_b121 v0 v2 v4 s0 h)
else
(gk_cv h v0 7 (f_M_fail v0 (7 : Int32) h) fun _ h1 =>
some ((), h1))))
else
(some ((), h))
def f_M_lookups_b30  (s0 : Option Nat) (s1 : UInt64) (h : gk_H) : Option (Unit × gk_H) :=
gk_cv h s0 7 (f_M_answerNumber s0 s1 h) fun _ h1 =>
f_M_lookups_b230 h1
def f_M_lookups (a0 : Option Nat) (a1 : Int32) (a2 : Int32) (a3 : Int32) (h : gk_H) : Option (Unit × gk_H) :=
if (76 : Int32) ≤ a1 then
(if a1 = (76 : Int32) then
(gk_cv h a0 7 (f_M_index a0 a2 a3 h) fun _ h1 =>
f_M_lookups_b230 h1)
else
(if a1 = (77 : Int32) then
(gk_cv h a0 7 (f_M_wantAny a0 a2 h) fun x1 h2 =>
if a3 = (3 : Int32) then
(gk_cv h2 a0 7 (f_M_wantWhole a0 (a2 + (2 : Int32)) h2) fun x2 h3 =>
f_M_lookups_b80 a0 a2 x1 x2 h3)
else
(f_M_lookups_b80 a0 a2 x1 (1 : Int64) h2))
else
(if a1 = (80 : Int32) then
(gk_cv h a0 7 (f_M_transpose a0 a2 h) fun _ h4 =>
f_M_lookups_b230 h4)
else
(if a1 = (78 : Int32) then
(f_M_lookups_b225 a2 a3 a0 (1 : Int32) h)
else
(f_M_lookups_b225 a2 a3 a0 (0 : Int32) h)))))
else
(if a1 = (74 : Int32) then
(((gk_get h a0 7 5).bind gk_asR).bind fun x3 =>
((gk_ald h x3 1 a2).bind gk_asI).bind fun x4 =>
f_M_lookups_b30 a0 (FP.i2d x4) h)
else
(((gk_get h a0 7 6).bind gk_asR).bind fun x5 =>
((gk_ald h x5 1 a2).bind gk_asI).bind fun x6 =>
f_M_lookups_b30 a0 (FP.i2d x6) h))
def f_M_timeOf_b104  (s0 : Option Nat) (s1 : UInt64) (h : gk_H) : Option (Unit × gk_H) :=
gk_cv h s0 7 (f_M_answerNumber s0 s1 h) fun _ h1 =>
some ((), h1)
def f_M_timeOf_b61  (v0 : Option Nat) (v1 : Int32) (s0 : Int32) (h : gk_H) : Option (Unit × gk_H) :=
if v1 = (89 : Int32) then
(f_M_timeOf_b104 v0 (FP.i2d (s0 / (3600 : Int32))) h)
else
(if v1 = (90 : Int32) then
(f_M_timeOf_b104 v0 (FP.i2d ((s0 / (60 : Int32)) - (s0 / (60 : Int32)) / (60 : Int32) * (60 : Int32))) h)
else
(f_M_timeOf_b104 v0 (FP.i2d (s0 - s0 / (60 : Int32) * (60 : Int32))) h))
def f_M_timeOf_b19  (v0 : Option Nat) (v1 : Int32) (v2 : UInt64) (h : gk_H) : Option (Unit × gk_H) :=
((gk_get h v0 7 11).bind gk_asI).bind fun x1 =>
if x1 ≤ 0 then
(gk_ca (f_M_floor v2 h) fun x2 h1 =>
gk_dop (FP.dsub v2 x2) fun x3 =>
gk_dop (FP.dmul x3 (0x40f5180000000000)) fun x4 =>
gk_dop (FP.dadd x4 (0x3fe0000000000000)) fun x5 =>
gk_ca (f_M_floor x5 h1) fun x6 h2 =>
gk_let (FP.d2i x6) fun x7 =>
if x7 = (86400 : Int32) then
(f_M_timeOf_b61 v0 v1 (0 : Int32) h2)
else
(f_M_timeOf_b61 v0 v1 x7 h2))
else
(some ((), h))
def f_M_timeOf (a0 : Option Nat) (a1 : Int32) (a2 : UInt64) (h : gk_H) : Option (Unit × gk_H) :=
((gk_get h a0 7 11).bind gk_asI).bind fun x1 =>
if x1 = 0 then
(if 0 ≤ (Op.cmpValue (FP.dcmp a2 (0x0000000000000000)) .g) then
(f_M_timeOf_b19 a0 a1 a2 h)
else
(gk_cv h a0 7 (f_M_fail a0 (6 : Int32) h) fun _ h1 =>
f_M_timeOf_b19 a0 a1 a2 h1))
else
(f_M_timeOf_b19 a0 a1 a2 h)
def f_M_isLeap_b33  (s0 : Int32) (h : gk_H) : Option (Int32 × gk_H) :=
if narrow .boolean (.int s0) = .int s0 then some (s0, h) else none
def f_M_isLeap_b28   (h : gk_H) : Option (Int32 × gk_H) :=
f_M_isLeap_b33 (1 : Int32) h
def f_M_isLeap_b13  (v0 : Int32) (h : gk_H) : Option (Int32 × gk_H) :=
if (v0 - v0 / (400 : Int32) * (400 : Int32)) = 0 then
(f_M_isLeap_b28 h)
else
(if v0 = (1900 : Int32) then
(f_M_isLeap_b28 h)
else
(f_M_isLeap_b33 (0 : Int32) h))
def f_M_isLeap (a0 : Int32) (h : gk_H) : Option (Int32 × gk_H) :=
if (a0 - a0 / (4 : Int32) * (4 : Int32)) = 0 then
(if (a0 - a0 / (100 : Int32) * (100 : Int32)) = 0 then
(f_M_isLeap_b13 a0 h)
else
(f_M_isLeap_b28 h))
else
(f_M_isLeap_b13 a0 h)
def f_M_monthLong_b52  (s0 : Int32) (h : gk_H) : Option (Int32 × gk_H) :=
some (s0, h)
def f_M_monthLong_b45   (h : gk_H) : Option (Int32 × gk_H) :=
f_M_monthLong_b52 (30 : Int32) h
def f_M_monthLong (a0 : Int32) (a1 : Int32) (h : gk_H) : Option (Int32 × gk_H) :=
if a1 = (2 : Int32) then
(gk_ca (f_M_isLeap a0 h) fun x1 h1 =>
if x1 = 0 then
(f_M_monthLong_b52 (28 : Int32) h1)
else
(f_M_monthLong_b52 (29 : Int32) h1))
else
(if a1 = (4 : Int32) then
(f_M_monthLong_b45 h)
else
(if a1 = (6 : Int32) then
(f_M_monthLong_b45 h)
else
(if a1 = (9 : Int32) then
(f_M_monthLong_b45 h)
else
(if a1 = (11 : Int32) then
(f_M_monthLong_b45 h)
else
(f_M_monthLong_b52 (31 : Int32) h)))))
def f_M_findDate_b72  : Nat → Option Nat → Int32 → gk_H → Option (Unit × gk_H)
  | 0 => fun _ _ _ => none
  | fu + 1 => fun v0 v2 h =>
((gk_get h v0 7 22).bind gk_asI).bind fun x1 =>
((gk_get h v0 7 23).bind gk_asI).bind fun x2 =>
gk_ca (f_M_monthLong x1 x2 h) fun x3 h1 =>
if v2 ≤ x3 then
((gk_set h1 v0 7 24 (.int v2)).bind fun h2 =>
some ((), h2))
else
(((gk_get h1 v0 7 22).bind gk_asI).bind fun x4 =>
((gk_get h1 v0 7 23).bind gk_asI).bind fun x5 =>
gk_ca (f_M_monthLong x4 x5 h1) fun x6 h3 =>
gk_let (v2 - x6) fun x7 =>
((gk_get h3 v0 7 23).bind gk_asI).bind fun x8 =>
(gk_set h3 v0 7 23 (.int (x8 + (1 : Int32)))).bind fun h4 =>
(f_M_findDate_b72 fu) v0 x7 h4)
def f_M_findDate_b57 (b14 : Option Nat → Int32 → gk_H → Option (Unit × gk_H)) (v0 : Option Nat) (s0 : Int32) (s1 : Int32) (h : gk_H) : Option (Unit × gk_H) :=
gk_let (s0 - s1) fun x1 =>
((gk_get h v0 7 22).bind gk_asI).bind fun x2 =>
(gk_set h v0 7 22 (.int (x2 + (1 : Int32)))).bind fun h1 =>
b14 v0 x1 h1
def f_M_findDate_b34 (b14 : Option Nat → Int32 → gk_H → Option (Unit × gk_H)) (v0 : Option Nat) (v2 : Int32) (s0 : Int32) (s1 : Int32) (h : gk_H) : Option (Unit × gk_H) :=
if s0 ≤ s1 then
(f_M_findDate_b72 gk_F v0 v2 h)
else
(((gk_get h v0 7 22).bind gk_asI).bind fun x1 =>
gk_ca (f_M_isLeap x1 h) fun x2 h1 =>
if x2 = 0 then
(f_M_findDate_b57 b14 v0 v2 (365 : Int32) h1)
else
(f_M_findDate_b57 b14 v0 v2 (366 : Int32) h1))
def f_M_findDate_b14  : Nat → Option Nat → Int32 → gk_H → Option (Unit × gk_H)
  | 0 => fun _ _ _ => none
  | fu + 1 => fun v0 v2 h =>
((gk_get h v0 7 22).bind gk_asI).bind fun x1 =>
gk_ca (f_M_isLeap x1 h) fun x2 h1 =>
if x2 = 0 then
(f_M_findDate_b34 (f_M_findDate_b14 fu) v0 v2 v2 (365 : Int32) h1)
else
(f_M_findDate_b34 (f_M_findDate_b14 fu) v0 v2 v2 (366 : Int32) h1)
def f_M_findDate (a0 : Option Nat) (a1 : Int32) (h : gk_H) : Option (Unit × gk_H) :=
(gk_set h a0 7 22 (.int (1900 : Int32))).bind fun h1 =>
(gk_set h1 a0 7 23 (.int (1 : Int32))).bind fun h2 =>
f_M_findDate_b14 gk_F a0 a1 h2
def f_M_isShort_b21  (s0 : Int32) (h : gk_H) : Option (Int32 × gk_H) :=
if narrow .boolean (.int s0) = .int s0 then some (s0, h) else none
def f_M_isShort_b20   (h : gk_H) : Option (Int32 × gk_H) :=
f_M_isShort_b21 (0 : Int32) h
def f_M_isShort (a0 : Int64) (h : gk_H) : Option (Int32 × gk_H) :=
if (lg_cmp a0 (-32768 : Int64)) < 0 then
(f_M_isShort_b20 h)
else
(if 0 < (lg_cmp a0 (32767 : Int64)) then
(f_M_isShort_b20 h)
else
(f_M_isShort_b21 (1 : Int32) h))
def f_M_firstOf_b38  : Nat → Int32 → Int32 → Int32 → Int32 → gk_H → Option (Int32 × gk_H)
  | 0 => fun _ _ _ _ _ => none
  | fu + 1 => fun v0 v1 v2 v3 h =>
if v1 ≤ v3 then
(some (v2, h))
else
(gk_ca (f_M_monthLong v0 v3 h) fun x1 h1 =>
gk_let (v2 + x1) fun x2 =>
gk_let (v3 + (1 : Int32)) fun x3 =>
(f_M_firstOf_b38 fu) v0 v1 x2 x3 h1)
def f_M_firstOf_b28 (b6 : Int32 → Int32 → Int32 → Int32 → gk_H → Option (Int32 × gk_H)) (v0 : Int32) (v1 : Int32) (v3 : Int32) (s0 : Int32) (s1 : Int32) (h : gk_H) : Option (Int32 × gk_H) :=
gk_let (s0 + s1) fun x1 =>
gk_let (v3 + (1 : Int32)) fun x2 =>
b6 v0 v1 x1 x2 h
def f_M_firstOf_b6  : Nat → Int32 → Int32 → Int32 → Int32 → gk_H → Option (Int32 × gk_H)
  | 0 => fun _ _ _ _ _ => none
  | fu + 1 => fun v0 v1 v2 v3 h =>
if v0 ≤ v3 then
(f_M_firstOf_b38 gk_F v0 v1 v2 (1 : Int32) h)
else
(gk_ca (f_M_isLeap v3 h) fun x1 h1 =>
if x1 = 0 then
(f_M_firstOf_b28 (f_M_firstOf_b6 fu) v0 v1 v3 v2 (365 : Int32) h1)
else
(f_M_firstOf_b28 (f_M_firstOf_b6 fu) v0 v1 v3 v2 (366 : Int32) h1))
def f_M_firstOf (a0 : Int32) (a1 : Int32) (h : gk_H) : Option (Int32 × gk_H) :=
f_M_firstOf_b6 gk_F a0 a1 (1 : Int32) (1900 : Int32) h
def f_M_answerDay_b20  (v0 : Option Nat) (v1 : Int64) (h : gk_H) : Option (Unit × gk_H) :=
gk_cv h v0 7 (f_M_answerNumber v0 (FP.l2d v1) h) fun _ h1 =>
some ((), h1)
def f_M_answerDay_b14  (v0 : Option Nat) (v1 : Int64) (h : gk_H) : Option (Unit × gk_H) :=
gk_cv h v0 7 (f_M_fail v0 (6 : Int32) h) fun _ h1 =>
f_M_answerDay_b20 v0 v1 h1
def f_M_answerDay (a0 : Option Nat) (a1 : Int64) (h : gk_H) : Option (Unit × gk_H) :=
if (lg_cmp a1 (0 : Int64)) < 0 then
(f_M_answerDay_b14 a0 a1 h)
else
(if (lg_cmp a1 (2958465 : Int64)) ≤ 0 then
(f_M_answerDay_b20 a0 a1 h)
else
(f_M_answerDay_b14 a0 a1 h))
def f_M_monthsOn_b122  (s0 : Option Nat) (s1 : Int32) (s2 : Int32) (h : gk_H) : Option (Unit × gk_H) :=
gk_cv h s0 7 (f_M_answerDay s0 ((Int32.toInt64 (s1 + s2)) - (1 : Int64)) h) fun _ h1 =>
some ((), h1)
def f_M_monthsOn_b113  (v6 : Int32) (s0 : Option Nat) (s1 : Int32) (h : gk_H) : Option (Unit × gk_H) :=
f_M_monthsOn_b122 s0 s1 v6 h
def f_M_monthsOn_b31  : Nat → Option Nat → Int32 → Int32 → Int32 → gk_H → Option (Unit × gk_H)
  | 0 => fun _ _ _ _ _ => none
  | fu + 1 => fun v0 v1 v4 v5 h =>
if 0 ≤ v4 then
(gk_let (v5 + (v4 / (12 : Int32))) fun x1 =>
gk_let ((v4 - v4 / (12 : Int32) * (12 : Int32)) + (1 : Int32)) fun x2 =>
if (1900 : Int32) ≤ x1 then
(gk_ca (f_M_monthLong x1 x2 h) fun x3 h1 =>
gk_ca (f_M_firstOf x1 x2 h1) fun x4 h2 =>
if v1 = 0 then
(((gk_get h2 v0 7 24).bind gk_asI).bind fun x5 =>
if x5 ≤ x3 then
(((gk_get h2 v0 7 24).bind gk_asI).bind fun x6 =>
f_M_monthsOn_b122 v0 x4 x6 h2)
else
(f_M_monthsOn_b113 x3 v0 x4 h2))
else
(f_M_monthsOn_b113 x3 v0 x4 h2))
else
(gk_cv h v0 7 (f_M_fail v0 (6 : Int32) h) fun _ h3 =>
some ((), h3)))
else
(gk_let (v4 + (12 : Int32)) fun x7 =>
gk_let (v5 + (-1 : Int32)) fun x8 =>
(f_M_monthsOn_b31 fu) v0 v1 x7 x8 h)
def f_M_monthsOn (a0 : Option Nat) (a1 : Int32) (a2 : Int64) (h : gk_H) : Option (Unit × gk_H) :=
gk_ca (f_M_isShort a2 h) fun x1 h1 =>
if x1 = 0 then
(gk_cv h1 a0 7 (f_M_fail a0 (6 : Int32) h1) fun _ h2 =>
some ((), h2))
else
(((gk_get h1 a0 7 23).bind gk_asI).bind fun x2 =>
gk_let ((x2 - (1 : Int32)) + (Int64.toInt32 a2)) fun x3 =>
((gk_get h1 a0 7 22).bind gk_asI).bind fun x4 =>
f_M_monthsOn_b31 gk_F a0 a1 x3 x4 h1)
def f_M_ofThree_b146  (v0 : Option Nat) (h : gk_H) : Option (Unit × gk_H) :=
gk_cv h v0 7 (f_M_fail v0 (6 : Int32) h) fun _ h1 =>
some ((), h1)
def f_M_ofThree_b247   (h : gk_H) : Option (Unit × gk_H) :=
some ((), h)
def f_M_ofThree_b180  : Nat → Option Nat → Int64 → Int32 → Int32 → gk_H → Option (Unit × gk_H)
  | 0 => fun _ _ _ _ _ => none
  | fu + 1 => fun v0 v7 v9 v10 h =>
if 0 ≤ v10 then
(gk_let (v9 + (v10 / (12 : Int32))) fun x1 =>
if (1900 : Int32) ≤ x1 then
(gk_ca (f_M_firstOf x1 ((v10 - v10 / (12 : Int32) * (12 : Int32)) + (1 : Int32)) h) fun x2 h1 =>
gk_cv h1 v0 7 (f_M_answerDay v0 (((Int32.toInt64 x2) + v7) - (1 : Int64)) h1) fun _ h2 =>
f_M_ofThree_b247 h2)
else
(gk_cv h v0 7 (f_M_fail v0 (6 : Int32) h) fun _ h3 =>
f_M_ofThree_b247 h3))
else
(gk_let (v10 + (12 : Int32)) fun x3 =>
gk_let (v9 + (-1 : Int32)) fun x4 =>
(f_M_ofThree_b180 fu) v0 v7 x4 x3 h)
def f_M_ofThree_b170  (v0 : Option Nat) (v5 : Int64) (v7 : Int64) (s0 : Int64) (h : gk_H) : Option (Unit × gk_H) :=
gk_let (Int64.toInt32 s0) fun x1 =>
gk_let ((Int64.toInt32 v5) - (1 : Int32)) fun x2 =>
f_M_ofThree_b180 gk_F v0 v7 x1 x2 h
def f_M_ofThree_b90  (v0 : Option Nat) (v3 : Int64) (v5 : Int64) (v7 : Int64) (h : gk_H) : Option (Unit × gk_H) :=
gk_let ((((3600 : Int64) * v3) + ((60 : Int64) * v5)) + v7) fun x1 =>
gk_dop (FP.ddiv (FP.l2d (x1 - x1 / (86400 : Int64) * (86400 : Int64))) (0x40f5180000000000)) fun x2 =>
gk_cv h v0 7 (f_M_answerNumber v0 x2 h) fun _ h1 =>
some ((), h1)
def f_M_ofThree_b84  (v0 : Option Nat) (v3 : Int64) (v5 : Int64) (v7 : Int64) (h : gk_H) : Option (Unit × gk_H) :=
gk_cv h v0 7 (f_M_fail v0 (6 : Int32) h) fun _ h1 =>
f_M_ofThree_b90 v0 v3 v5 v7 h1
def f_M_ofThree (a0 : Option Nat) (a1 : Int32) (a2 : Int32) (h : gk_H) : Option (Unit × gk_H) :=
gk_cv h a0 7 (f_M_wantWhole a0 a2 h) fun x1 h1 =>
gk_cv h1 a0 7 (f_M_wantWhole a0 (a2 + (1 : Int32)) h1) fun x2 h2 =>
gk_cv h2 a0 7 (f_M_wantWhole a0 (a2 + (2 : Int32)) h2) fun x3 h3 =>
((gk_get h3 a0 7 11).bind gk_asI).bind fun x4 =>
if x4 ≤ 0 then
(if a1 = (88 : Int32) then
(if (lg_cmp x1 (0 : Int64)) < 0 then
(f_M_ofThree_b84 a0 x1 x2 x3 h3)
else
(if (lg_cmp x2 (0 : Int64)) < 0 then
(f_M_ofThree_b84 a0 x1 x2 x3 h3)
else
(if (lg_cmp x3 (0 : Int64)) < 0 then
(f_M_ofThree_b84 a0 x1 x2 x3 h3)
else
(if 0 < (lg_cmp x1 (32767 : Int64)) then
(f_M_ofThree_b84 a0 x1 x2 x3 h3)
else
(if 0 < (lg_cmp x2 (32767 : Int64)) then
(f_M_ofThree_b84 a0 x1 x2 x3 h3)
else
(if (lg_cmp x3 (32767 : Int64)) ≤ 0 then
(f_M_ofThree_b90 a0 x1 x2 x3 h3)
else
(f_M_ofThree_b84 a0 x1 x2 x3 h3)))))))
else
(gk_ca (f_M_isShort x1 h3) fun x5 h4 =>
if x5 = 0 then
(f_M_ofThree_b146 a0 h4)
else
(gk_ca (f_M_isShort x2 h4) fun x6 h5 =>
if x6 = 0 then
(f_M_ofThree_b146 a0 h5)
else
(gk_ca (f_M_isShort x3 h5) fun x7 h6 =>
if x7 = 0 then
(f_M_ofThree_b146 a0 h6)
else
(if 0 ≤ (lg_cmp x1 (1900 : Int64)) then
(f_M_ofThree_b170 a0 x2 x3 x1 h6)
else
(f_M_ofThree_b170 a0 x2 x3 (x1 + (1900 : Int64)) h6))))))
else
(some ((), h3))
def f_M_days_b12  (v0 : Option Nat) (v1 : Int32) (v2 : Int32) (h : gk_H) : Option (Unit × gk_H) :=
gk_cv h v0 7 (f_M_ofThree v0 v1 v2 h) fun _ h1 =>
some ((), h1)
def f_M_days_b89  (v0 : Option Nat) (h : gk_H) : Option (Unit × gk_H) :=
gk_cv h v0 7 (f_M_fail v0 (6 : Int32) h) fun _ h1 =>
some ((), h1)
def f_M_days_b262   (h : gk_H) : Option (Unit × gk_H) :=
some ((), h)
def f_M_days_b257  (v6 : Int64) (s0 : Option Nat) (s1 : Int32) (h : gk_H) : Option (Unit × gk_H) :=
gk_cv h s0 7 (f_M_monthsOn s0 s1 v6 h) fun _ h1 =>
f_M_days_b262 h1
def f_M_days_b239  (s0 : Option Nat) (s1 : UInt64) (h : gk_H) : Option (Unit × gk_H) :=
gk_cv h s0 7 (f_M_answerNumber s0 s1 h) fun _ h1 =>
f_M_days_b262 h1
def f_M_days_b191  (v0 : Option Nat) (v6 : Int64) (v11 : Int32) (h : gk_H) : Option (Unit × gk_H) :=
if (lg_cmp v6 (1 : Int64)) = 0 then
(f_M_days_b239 v0 (FP.i2d (v11 + (1 : Int32))) h)
else
(if (lg_cmp v6 (2 : Int64)) = 0 then
(f_M_days_b239 v0 (FP.i2d (((v11 + (6 : Int32)) - (v11 + (6 : Int32)) / (7 : Int32) * (7 : Int32)) + (1 : Int32))) h)
else
(f_M_days_b239 v0 (FP.i2d ((v11 + (6 : Int32)) - (v11 + (6 : Int32)) / (7 : Int32) * (7 : Int32))) h))
def f_M_days_b185  (v0 : Option Nat) (v6 : Int64) (v11 : Int32) (h : gk_H) : Option (Unit × gk_H) :=
gk_cv h v0 7 (f_M_fail v0 (6 : Int32) h) fun _ h1 =>
f_M_days_b191 v0 v6 v11 h1
def f_M_days_b147  (s0 : Option Nat) (s1 : UInt64) (h : gk_H) : Option (Unit × gk_H) :=
gk_cv h s0 7 (f_M_answerNumber s0 s1 h) fun _ h1 =>
f_M_days_b262 h1
def f_M_days_b56  (v0 : Option Nat) (v1 : Int32) (v4 : UInt64) (s0 : Int64) (h : gk_H) : Option (Unit × gk_H) :=
((gk_get h v0 7 11).bind gk_asI).bind fun x1 =>
if x1 ≤ 0 then
(gk_ca (f_M_floor v4 h) fun x2 h1 =>
if (Op.cmpValue (FP.dcmp x2 (0x0000000000000000)) .g) < 0 then
(f_M_days_b89 v0 h1)
else
(if (Op.cmpValue (FP.dcmp x2 (0x4146924080000000)) .l) ≤ 0 then
(gk_let (FP.d2i x2) fun x3 =>
gk_cv h1 v0 7 (f_M_findDate v0 x3 h1) fun _ h2 =>
if (85 : Int32) ≤ v1 then
(if v1 = (85 : Int32) then
(gk_let ((x3 + (6 : Int32)) - (x3 + (6 : Int32)) / (7 : Int32) * (7 : Int32)) fun x4 =>
if (lg_cmp s0 (1 : Int64)) < 0 then
(f_M_days_b185 v0 s0 x4 h2)
else
(if (lg_cmp s0 (3 : Int64)) ≤ 0 then
(f_M_days_b191 v0 s0 x4 h2)
else
(f_M_days_b185 v0 s0 x4 h2)))
else
(if v1 = (87 : Int32) then
(f_M_days_b257 s0 v0 (1 : Int32) h2)
else
(f_M_days_b257 s0 v0 (0 : Int32) h2)))
else
(if v1 = (82 : Int32) then
(((gk_get h2 v0 7 22).bind gk_asI).bind fun x5 =>
f_M_days_b147 v0 (FP.i2d x5) h2)
else
(if v1 = (83 : Int32) then
(((gk_get h2 v0 7 23).bind gk_asI).bind fun x6 =>
f_M_days_b147 v0 (FP.i2d x6) h2)
else
(((gk_get h2 v0 7 24).bind gk_asI).bind fun x7 =>
f_M_days_b147 v0 (FP.i2d x7) h2))))
else
(f_M_days_b89 v0 h1)))
else
(some ((), h))
def f_M_days (a0 : Option Nat) (a1 : Int32) (a2 : Int32) (a3 : Int32) (h : gk_H) : Option (Unit × gk_H) :=
if a1 = (81 : Int32) then
(f_M_days_b12 a0 a1 a2 h)
else
(if a1 = (88 : Int32) then
(f_M_days_b12 a0 a1 a2 h)
else
(gk_cv h a0 7 (f_M_wantNumber a0 a2 h) fun x1 h1 =>
if a1 ≤ (88 : Int32) then
(if a3 = (2 : Int32) then
(gk_cv h1 a0 7 (f_M_wantWhole a0 (a2 + (1 : Int32)) h1) fun x2 h2 =>
f_M_days_b56 a0 a1 x1 x2 h2)
else
(f_M_days_b56 a0 a1 x1 (1 : Int64) h1))
else
(gk_cv h1 a0 7 (f_M_timeOf a0 a1 x1 h1) fun _ h3 =>
some ((), h3))))
def f_M_call_b234  (v0 : Option Nat) (v2 : Int32) (h : gk_H) : Option (Unit × gk_H) :=
gk_cv h v0 7 (f_M_finish v0 v2 h) fun _ h1 =>
some ((), h1)
def f_M_call_b84  (v0 : Option Nat) (v1 : Int32) (v2 : Int32) (s0 : Option Nat) (s1 : Int32) (h : gk_H) : Option (Unit × gk_H) :=
(gk_set h s0 7 0 (.int s1)).bind fun h1 =>
((gk_get h1 v0 7 0).bind gk_asI).bind fun x1 =>
if x1 ≤ 0 then
((gk_set h1 v0 7 11 (.int (0 : Int32))).bind fun h2 =>
((gk_get h2 v0 7 3).bind gk_asI).bind fun x2 =>
gk_let (x2 - v2) fun x3 =>
if (15 : Int32) ≤ v1 then
(if (19 : Int32) ≤ v1 then
(if (35 : Int32) ≤ v1 then
(if (46 : Int32) ≤ v1 then
(if (56 : Int32) ≤ v1 then
(if (74 : Int32) ≤ v1 then
(if (81 : Int32) ≤ v1 then
(gk_cv h2 v0 7 (f_M_days v0 v1 x3 v2 h2) fun _ h3 =>
f_M_call_b234 v0 v2 h3)
else
(gk_cv h2 v0 7 (f_M_lookups v0 v1 x3 v2 h2) fun _ h4 =>
f_M_call_b234 v0 v2 h4))
else
(gk_cv h2 v0 7 (f_M_texts v0 v1 x3 v2 h2) fun _ h5 =>
f_M_call_b234 v0 v2 h5))
else
(gk_cv h2 v0 7 (f_M_kindsOf v0 v1 x3 h2) fun _ h6 =>
f_M_call_b234 v0 v2 h6))
else
(gk_cv h2 v0 7 (f_M_choices v0 v1 x3 v2 h2) fun _ h7 =>
f_M_call_b234 v0 v2 h7))
else
(gk_cv h2 v0 7 (f_M_numbers v0 v1 x3 v2 h2) fun _ h8 =>
f_M_call_b234 v0 v2 h8))
else
(gk_cv h2 v0 7 (f_M_conditions v0 v1 x3 v2 h2) fun _ h9 =>
f_M_call_b234 v0 v2 h9))
else
(gk_cv h2 v0 7 (f_M_figures v0 v1 x3 v2 h2) fun _ h10 =>
f_M_call_b234 v0 v2 h10))
else
(some ((), h1))
def f_M_call_b83  (v0 : Option Nat) (v1 : Int32) (v2 : Int32) (s0 : Option Nat) (h : gk_H) : Option (Unit × gk_H) :=
f_M_call_b84 v0 v1 v2 s0 (0 : Int32) h
def f_M_call_b55  (v0 : Option Nat) (v1 : Int32) (v2 : Int32) (s0 : Int32) (h : gk_H) : Option (Unit × gk_H) :=
if s0 = 0 then
(f_M_call_b84 v0 v1 v2 v0 (1 : Int32) h)
else
(if v2 = 0 then
(gk_cv h v0 7 (f_M_isFull v0 (1 : Int32) h) fun x1 h1 =>
if x1 = 0 then
(f_M_call_b83 v0 v1 v2 v0 h1)
else
(f_M_call_b84 v0 v1 v2 v0 (2 : Int32) h1))
else
(f_M_call_b83 v0 v1 v2 v0 h))
def f_M_call_b54  (v0 : Option Nat) (v1 : Int32) (v2 : Int32) (h : gk_H) : Option (Unit × gk_H) :=
f_M_call_b55 v0 v1 v2 (0 : Int32) h
def f_M_call_b15  (v0 : Option Nat) (v1 : Int32) (v2 : Int32) (s0 : Int32) (h : gk_H) : Option (Unit × gk_H) :=
if s0 = 0 then
(f_M_call_b54 v0 v1 v2 h)
else
(gk_ca (f_M_takes v1 h) fun x1 h1 =>
if v2 < (x1 / (10 : Int32)) then
(f_M_call_b54 v0 v1 v2 h1)
else
(gk_ca (f_M_takes v1 h1) fun x2 h2 =>
if (x2 - x2 / (10 : Int32) * (10 : Int32)) < v2 then
(f_M_call_b54 v0 v1 v2 h2)
else
(((gk_get h2 v0 7 3).bind gk_asI).bind fun x3 =>
if x3 < v2 then
(f_M_call_b54 v0 v1 v2 h2)
else
(f_M_call_b55 v0 v1 v2 (1 : Int32) h2))))
def f_M_call_b14  (v0 : Option Nat) (v1 : Int32) (v2 : Int32) (h : gk_H) : Option (Unit × gk_H) :=
f_M_call_b15 v0 v1 v2 (0 : Int32) h
def f_M_call (a0 : Option Nat) (a1 : Int32) (a2 : Int32) (h : gk_H) : Option (Unit × gk_H) :=
if a1 < 0 then
(f_M_call_b14 a0 a1 a2 h)
else
(if (92 : Int32) ≤ a1 then
(f_M_call_b14 a0 a1 a2 h)
else
(f_M_call_b15 a0 a1 a2 (1 : Int32) h))
