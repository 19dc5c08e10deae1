/-! GENERATED: functions -/
def f_AB_init (a0 : Option Nat) (a1 : Int32) (h : gk_H) : Option (Unit × gk_H) :=
a0.bind fun _ =>
(gk_asI (gk_gs h 0)).bind fun x1 =>
if x1 = 0 then
(none)
else
(gk_na h 3 a1 fun x2 h1 =>
(gk_set h1 a0 1 0 (va_rf x2)).bind fun h2 =>
(gk_set h2 a0 1 1 (.int (0 : Int32))).bind fun h3 =>
some ((), h3))
def f_SB_init (a0 : Option Nat) (h : gk_H) : Option (Unit × gk_H) :=
gk_cv h a0 1 (f_AB_init a0 (16 : Int32) h) fun _ h1 =>
some ((), h1)
def f_AB_length (a0 : Option Nat) (h : gk_H) : Option (Int32 × gk_H) :=
((gk_get h a0 1 3).bind gk_asI).bind fun x1 =>
some (x1, h)
def f_SB_length (a0 : Option Nat) (h : gk_H) : Option (Int32 × gk_H) :=
gk_cv h a0 1 (f_AB_length a0 h) fun x1 h1 =>
some (x1, h1)
def f_Ma_max_II_b10  (s0 : Int32) (h : gk_H) : Option (Int32 × gk_H) :=
some (s0, h)
def f_Ma_max_II (a0 : Int32) (a1 : Int32) (h : gk_H) : Option (Int32 × gk_H) :=
if a0 < a1 then
(f_Ma_max_II_b10 a1 h)
else
(f_Ma_max_II_b10 a0 h)
def f_Ys_newLength (a0 : Int32) (a1 : Int32) (a2 : Int32) (h : gk_H) : Option (Int32 × gk_H) :=
gk_ca (f_Ma_max_II a1 a2 h) fun x1 h1 =>
gk_let (a0 + x1) fun x2 =>
if x2 ≤ (0 : Int32) then
(none)
else
(if (2147483639 : Int32) < x2 then
(none)
else
(some (x2, h1)))
def f_AB_newCapacity (a0 : Option Nat) (a1 : Int32) (h : gk_H) : Option (Int32 × gk_H) :=
((gk_get h a0 1 0).bind gk_asR).bind fun x1 =>
(gk_len h x1).bind fun x2 =>
((gk_get h a0 1 1).bind gk_asI).bind fun x3 =>
gk_let (a1 <<< (x3 &&& 31)) fun x4 =>
gk_let (x4 - x2) fun x5 =>
((gk_get h a0 1 1).bind gk_asI).bind fun x6 =>
gk_ca (f_Ys_newLength x2 x5 (x2 + ((2 : Int32) <<< (x6 &&& 31))) h) fun x7 h1 =>
if x7 = (2147483647 : Int32) then
(none)
else
(((gk_get h1 a0 1 1).bind gk_asI).bind fun x8 =>
some ((x7 >>> (x8 &&& 31)), h1))
def f_Ma_min_II_b10  (s0 : Int32) (h : gk_H) : Option (Int32 × gk_H) :=
some (s0, h)
def f_Ma_min_II (a0 : Int32) (a1 : Int32) (h : gk_H) : Option (Int32 × gk_H) :=
if a1 < a0 then
(f_Ma_min_II_b10 a1 h)
else
(f_Ma_min_II_b10 a0 h)
def f_Ya_copyOf (a0 : Option Nat) (a1 : Int32) (h : gk_H) : Option ((Option Nat) × gk_H) :=
(gk_len h a0).bind fun x1 =>
if a1 = x1 then
(none)
else
(gk_na h 3 a1 fun x2 h1 =>
(gk_len h1 a0).bind fun x3 =>
gk_ca (f_Ma_min_II x3 a1 h1) fun x4 h2 =>
(gk_acp h2 a0 (0 : Int32) x2 (0 : Int32) x4).bind fun h3 =>
some (x2, h3))
def f_AB_ensureCapacityInternal_b38   (h : gk_H) : Option (Unit × gk_H) :=
some ((), h)
def f_AB_ensureCapacityInternal (a0 : Option Nat) (a1 : Int32) (h : gk_H) : Option (Unit × gk_H) :=
((gk_get h a0 1 0).bind gk_asR).bind fun x1 =>
(gk_len h x1).bind fun x2 =>
((gk_get h a0 1 1).bind gk_asI).bind fun x3 =>
gk_let (x2 >>> (x3 &&& 31)) fun x4 =>
if (a1 - x4) ≤ 0 then
(f_AB_ensureCapacityInternal_b38 h)
else
(((gk_get h a0 1 0).bind gk_asR).bind fun x5 =>
gk_cv h a0 1 (f_AB_newCapacity a0 a1 h) fun x6 h1 =>
((gk_get h1 a0 1 1).bind gk_asI).bind fun x7 =>
gk_ca (f_Ya_copyOf x5 (x6 <<< (x7 &&& 31)) h1) fun x8 h2 =>
(gk_set h2 a0 1 0 (va_rf x8)).bind fun h3 =>
f_AB_ensureCapacityInternal_b38 h3)
def f_AB_isLatin1_b18  (s0 : Int32) (h : gk_H) : Option (Int32 × gk_H) :=
if narrow .boolean (.int s0) = .int s0 then some (s0, h) else none
def f_AB_isLatin1_b17   (h : gk_H) : Option (Int32 × gk_H) :=
f_AB_isLatin1_b18 (0 : Int32) h
def f_AB_isLatin1 (a0 : Option Nat) (h : gk_H) : Option (Int32 × gk_H) :=
(gk_asI (gk_gs h 0)).bind fun x1 =>
if x1 = 0 then
(f_AB_isLatin1_b17 h)
else
(((gk_get h a0 1 1).bind gk_asI).bind fun x2 =>
if x2 = 0 then
(f_AB_isLatin1_b18 (1 : Int32) h)
else
(f_AB_isLatin1_b17 h))
def f_S1_canEncode_C_b12  (s0 : Int32) (h : gk_H) : Option (Int32 × gk_H) :=
if narrow .boolean (.int s0) = .int s0 then some (s0, h) else none
def f_S1_canEncode_C (a0 : Int32) (h : gk_H) : Option (Int32 × gk_H) :=
if (255 : Int32) < a0 then
(f_S1_canEncode_C_b12 (0 : Int32) h)
else
(f_S1_canEncode_C_b12 (1 : Int32) h)
def f_AB_append_C (a0 : Option Nat) (a1 : Int32) (h : gk_H) : Option ((Option Nat) × gk_H) :=
((gk_get h a0 1 3).bind gk_asI).bind fun x1 =>
gk_cv h a0 1 (f_AB_ensureCapacityInternal a0 (x1 + (1 : Int32)) h) fun _ h1 =>
gk_cv h1 a0 1 (f_AB_isLatin1 a0 h1) fun x2 h2 =>
if x2 = 0 then
(none)
else
(gk_ca (f_S1_canEncode_C a1 h2) fun x3 h3 =>
if x3 = 0 then
(none)
else
(((gk_get h3 a0 1 0).bind gk_asR).bind fun x4 =>
((gk_get h3 a0 1 3).bind gk_asI).bind fun x5 =>
(gk_set h3 a0 1 3 (.int (x5 + (1 : Int32)))).bind fun h4 =>
(gk_ast h4 x4 3 x5 (.int (Int8.toInt32 (Int32.toInt8 a1)))).bind fun h5 =>
some (a0, h5)))
def f_SB_append_C (a0 : Option Nat) (a1 : Int32) (h : gk_H) : Option ((Option Nat) × gk_H) :=
gk_cv h a0 1 (f_AB_append_C a0 a1 h) fun x1 h1 =>
some (a0, h1)
def f_AB_getValue (a0 : Option Nat) (h : gk_H) : Option ((Option Nat) × gk_H) :=
((gk_get h a0 1 0).bind gk_asR).bind fun x1 =>
some (x1, h)
def f_Ya_checkLength (a0 : Int32) (a1 : Int32) (h : gk_H) : Option (Unit × gk_H) :=
if a0 ≤ a1 then
(some ((), h))
else
(none)
def f_Ya_copyOfRangeByte (a0 : Option Nat) (a1 : Int32) (a2 : Int32) (h : gk_H) : Option ((Option Nat) × gk_H) :=
gk_ca (f_Ya_checkLength a1 a2 h) fun _ h1 =>
gk_let (a2 - a1) fun x1 =>
gk_na h1 3 x1 fun x2 h2 =>
(gk_len h2 a0).bind fun x3 =>
gk_ca (f_Ma_min_II (x3 - a1) x1 h2) fun x4 h3 =>
(gk_acp h3 a0 a1 x2 (0 : Int32) x4).bind fun h4 =>
some (x2, h4)
def f_Ya_copyOfRange_b10  (v0 : Option Nat) (v1 : Int32) (v2 : Int32) (h : gk_H) : Option ((Option Nat) × gk_H) :=
gk_ca (f_Ya_copyOfRangeByte v0 v1 v2 h) fun x1 h1 =>
some (x1, h1)
def f_Ya_copyOfRange (a0 : Option Nat) (a1 : Int32) (a2 : Int32) (h : gk_H) : Option ((Option Nat) × gk_H) :=
if a1 = 0 then
((gk_len h a0).bind fun x1 =>
if a2 = x1 then
(gk_cln h a0 fun x2 h1 =>
some (x2, h1))
else
(f_Ya_copyOfRange_b10 a0 a1 a2 h))
else
(f_Ya_copyOfRange_b10 a0 a1 a2 h)
def f_St_init_AbstractStringBuilderVoid_b97   (h : gk_H) : Option (Unit × gk_H) :=
some ((), h)
def f_St_init_AbstractStringBuilderVoid_b79  (v0 : Option Nat) (v3 : Option Nat) (v4 : Int32) (h : gk_H) : Option (Unit × gk_H) :=
(gk_set h v0 0 1 (.int (1 : Int32))).bind fun h1 =>
gk_ca (f_Ya_copyOfRange v3 (0 : Int32) (v4 <<< ((1 : Int32) &&& 31)) h1) fun x1 h2 =>
(gk_set h2 v0 0 0 (va_rf x1)).bind fun h3 =>
f_St_init_AbstractStringBuilderVoid_b97 h3
def f_St_init_AbstractStringBuilderVoid (a0 : Option Nat) (a1 : Option Nat) (a2 : Option Nat) (h : gk_H) : Option (Unit × gk_H) :=
a0.bind fun _ =>
gk_cv h a1 1 (f_AB_getValue a1 h) fun x1 h1 =>
gk_cv h1 a1 1 (f_SB_length a1 h1) fun x2 h2 =>
gk_cv h2 a1 1 (f_AB_isLatin1 a1 h2) fun x3 h3 =>
if x3 = 0 then
((gk_asI (gk_gs h3 0)).bind fun x4 =>
if x4 = 0 then
(f_St_init_AbstractStringBuilderVoid_b79 a0 x1 x2 h3)
else
(((gk_get h3 a1 1 2).bind gk_asI).bind fun x5 =>
if x5 = 0 then
(f_St_init_AbstractStringBuilderVoid_b79 a0 x1 x2 h3)
else
(none)))
else
((gk_set h3 a0 0 1 (.int (0 : Int32))).bind fun h4 =>
gk_ca (f_Ya_copyOfRange x1 (0 : Int32) x2 h4) fun x6 h5 =>
(gk_set h5 a0 0 0 (va_rf x6)).bind fun h6 =>
f_St_init_AbstractStringBuilderVoid_b97 h6)
def f_St_init_StringBuilder (a0 : Option Nat) (a1 : Option Nat) (h : gk_H) : Option (Unit × gk_H) :=
gk_cv h a0 0 (f_St_init_AbstractStringBuilderVoid a0 a1 none h) fun _ h1 =>
some ((), h1)
def f_SB_toString (a0 : Option Nat) (h : gk_H) : Option ((Option Nat) × gk_H) :=
gk_nw h 0 4 fun x1 h1 =>
gk_cv h1 x1 0 (f_St_init_StringBuilder x1 a0 h1) fun _ h2 =>
some (x1, h2)
def f_St_coder_b14  (s0 : Int32) (h : gk_H) : Option (Int32 × gk_H) :=
if narrow .byte (.int s0) = .int s0 then some (s0, h) else none
def f_St_coder (a0 : Option Nat) (h : gk_H) : Option (Int32 × gk_H) :=
(gk_asI (gk_gs h 0)).bind fun x1 =>
if x1 = 0 then
(f_St_coder_b14 (1 : Int32) h)
else
(((gk_get h a0 0 1).bind gk_asI).bind fun x2 =>
f_St_coder_b14 x2 h)
def f_St_length (a0 : Option Nat) (h : gk_H) : Option (Int32 × gk_H) :=
((gk_get h a0 0 0).bind gk_asR).bind fun x1 =>
(gk_len h x1).bind fun x2 =>
gk_cv h a0 0 (f_St_coder a0 h) fun x3 h1 =>
some ((x2 >>> (x3 &&& 31)), h1)
def f_Ya_rangeCheck (a0 : Int32) (a1 : Int32) (a2 : Int32) (h : gk_H) : Option (Unit × gk_H) :=
if a1 ≤ a2 then
(if 0 ≤ a1 then
(if a2 ≤ a0 then
(some ((), h))
else
(none))
else
(none))
else
(none)
def f_Ya_fill_b10  : Nat → Option Nat → Int32 → Int32 → Int32 → gk_H → Option (Unit × gk_H)
  | 0 => fun _ _ _ _ _ => none
  | fu + 1 => fun v0 v2 v3 v4 h =>
if v2 ≤ v4 then
(some ((), h))
else
((gk_ast h v0 3 v4 (.int v3)).bind fun h1 =>
gk_let (v4 + (1 : Int32)) fun x1 =>
(f_Ya_fill_b10 fu) v0 v2 v3 x1 h1)
def f_Ya_fill (a0 : Option Nat) (a1 : Int32) (a2 : Int32) (a3 : Int32) (h : gk_H) : Option (Unit × gk_H) :=
(gk_len h a0).bind fun x1 =>
gk_ca (f_Ya_rangeCheck x1 a1 a2 h) fun _ h1 =>
f_Ya_fill_b10 gk_F a0 a2 a3 a1 h1
def f_S1_fillNull (a0 : Option Nat) (a1 : Int32) (a2 : Int32) (h : gk_H) : Option (Unit × gk_H) :=
gk_ca (f_Ya_fill a0 a1 a2 (0 : Int32) h) fun _ h1 =>
some ((), h1)
def f_AB_setLength_b76  (v0 : Option Nat) (v1 : Int32) (h : gk_H) : Option (Unit × gk_H) :=
(gk_set h v0 1 3 (.int v1)).bind fun h1 =>
some ((), h1)
def f_AB_setLength (a0 : Option Nat) (a1 : Int32) (h : gk_H) : Option (Unit × gk_H) :=
if 0 ≤ a1 then
(gk_cv h a0 1 (f_AB_ensureCapacityInternal a0 a1 h) fun _ h1 =>
((gk_get h1 a0 1 3).bind gk_asI).bind fun x1 =>
if a1 ≤ x1 then
(((gk_get h1 a0 1 3).bind gk_asI).bind fun x2 =>
if x2 ≤ a1 then
(f_AB_setLength_b76 a0 a1 h1)
else
((gk_set h1 a0 1 2 (.int (1 : Int32))).bind fun h2 =>
f_AB_setLength_b76 a0 a1 h2))
else
(gk_cv h1 a0 1 (f_AB_isLatin1 a0 h1) fun x3 h3 =>
if x3 = 0 then
(none)
else
(((gk_get h3 a0 1 0).bind gk_asR).bind fun x4 =>
((gk_get h3 a0 1 3).bind gk_asI).bind fun x5 =>
gk_ca (f_S1_fillNull x4 x5 a1 h3) fun _ h4 =>
f_AB_setLength_b76 a0 a1 h4)))
else
(none)
def f_SB_setLength (a0 : Option Nat) (a1 : Int32) (h : gk_H) : Option (Unit × gk_H) :=
gk_cv h a0 1 (f_AB_setLength a0 a1 h) fun _ h1 =>
some ((), h1)
def f_St_isLatin1_b18  (s0 : Int32) (h : gk_H) : Option (Int32 × gk_H) :=
if narrow .boolean (.int s0) = .int s0 then some (s0, h) else none
def f_St_isLatin1_b17   (h : gk_H) : Option (Int32 × gk_H) :=
f_St_isLatin1_b18 (0 : Int32) h
def f_St_isLatin1 (a0 : Option Nat) (h : gk_H) : Option (Int32 × gk_H) :=
(gk_asI (gk_gs h 0)).bind fun x1 =>
if x1 = 0 then
(f_St_isLatin1_b17 h)
else
(((gk_get h a0 0 1).bind gk_asI).bind fun x2 =>
if x2 = 0 then
(f_St_isLatin1_b18 (1 : Int32) h)
else
(f_St_isLatin1_b17 h))
def f_Pr_checkIndex (a0 : Int32) (a1 : Int32) (a2 : Option Nat) (h : gk_H) : Option (Int32 × gk_H) :=
if a0 < 0 then
(none)
else
(if a0 < a1 then
(some (a0, h))
else
(none))
def f_St_checkIndex (a0 : Int32) (a1 : Int32) (h : gk_H) : Option (Unit × gk_H) :=
(gk_asR (gk_gs h 1)).bind fun x1 =>
gk_ca (f_Pr_checkIndex a0 a1 x1 h) fun x2 h1 =>
some ((), h1)
def f_S1_charAt (a0 : Option Nat) (a1 : Int32) (h : gk_H) : Option (Int32 × gk_H) :=
(gk_len h a0).bind fun x1 =>
gk_ca (f_St_checkIndex a1 x1 h) fun _ h1 =>
((gk_ald h1 a0 3 a1).bind gk_asI).bind fun x2 =>
if narrow .char (.int (UInt32.toInt32 (Int32.toUInt32 (x2 &&& (255 : Int32)) % 65536))) = .int (UInt32.toInt32 (Int32.toUInt32 (x2 &&& (255 : Int32)) % 65536)) then some ((UInt32.toInt32 (Int32.toUInt32 (x2 &&& (255 : Int32)) % 65536)), h1) else none
def f_St_charAt (a0 : Option Nat) (a1 : Int32) (h : gk_H) : Option (Int32 × gk_H) :=
gk_cv h a0 0 (f_St_isLatin1 a0 h) fun x1 h1 =>
if x1 = 0 then
(none)
else
(((gk_get h1 a0 0 0).bind gk_asR).bind fun x2 =>
gk_ca (f_S1_charAt x2 a1 h1) fun x3 h2 =>
if narrow .char (.int x3) = .int x3 then some (x3, h2) else none)
def f_S1_canEncode_I_b16  (s0 : Int32) (h : gk_H) : Option (Int32 × gk_H) :=
if narrow .boolean (.int s0) = .int s0 then some (s0, h) else none
def f_S1_canEncode_I_b15   (h : gk_H) : Option (Int32 × gk_H) :=
f_S1_canEncode_I_b16 (0 : Int32) h
def f_S1_canEncode_I (a0 : Int32) (h : gk_H) : Option (Int32 × gk_H) :=
if a0 < 0 then
(f_S1_canEncode_I_b15 h)
else
(if (255 : Int32) < a0 then
(f_S1_canEncode_I_b15 h)
else
(f_S1_canEncode_I_b16 (1 : Int32) h))
def f_S1_indexOfChar_b7  : Nat → Option Nat → Int32 → Int32 → Int32 → gk_H → Option (Int32 × gk_H)
  | 0 => fun _ _ _ _ _ => none
  | fu + 1 => fun v0 v3 v4 v5 h =>
if v3 ≤ v5 then
(some ((-1 : Int32), h))
else
(((gk_ald h v0 3 v5).bind gk_asI).bind fun x1 =>
if x1 = v4 then
(some (v5, h))
else
(gk_let (v5 + (1 : Int32)) fun x2 =>
(f_S1_indexOfChar_b7 fu) v0 v3 v4 x2 h))
def f_S1_indexOfChar (a0 : Option Nat) (a1 : Int32) (a2 : Int32) (a3 : Int32) (h : gk_H) : Option (Int32 × gk_H) :=
gk_let (Int8.toInt32 (Int32.toInt8 a1)) fun x1 =>
f_S1_indexOfChar_b7 gk_F a0 a3 x1 a2 h
def f_S1_indexOf (a0 : Option Nat) (a1 : Int32) (a2 : Int32) (a3 : Int32) (h : gk_H) : Option (Int32 × gk_H) :=
gk_ca (f_S1_canEncode_I a1 h) fun x1 h1 =>
if x1 = 0 then
(some ((-1 : Int32), h1))
else
(gk_ca (f_Ma_max_II a2 (0 : Int32) h1) fun x2 h2 =>
(gk_len h2 a0).bind fun x3 =>
gk_ca (f_Ma_min_II a3 x3 h2) fun x4 h3 =>
if x2 < x4 then
(gk_ca (f_S1_indexOfChar a0 a1 x2 x4 h3) fun x5 h4 =>
some (x5, h4))
else
(some ((-1 : Int32), h3)))
def f_St_indexOf_II (a0 : Option Nat) (a1 : Int32) (a2 : Int32) (h : gk_H) : Option (Int32 × gk_H) :=
gk_cv h a0 0 (f_St_isLatin1 a0 h) fun x1 h1 =>
if x1 = 0 then
(none)
else
(((gk_get h1 a0 0 0).bind gk_asR).bind fun x2 =>
gk_cv h1 a0 0 (f_St_length a0 h1) fun x3 h2 =>
gk_ca (f_S1_indexOf x2 a1 a2 x3 h2) fun x4 h3 =>
some (x4, h3))
def f_St_indexOf_I (a0 : Option Nat) (a1 : Int32) (h : gk_H) : Option (Int32 × gk_H) :=
gk_cv h a0 0 (f_St_indexOf_II a0 a1 (0 : Int32) h) fun x1 h1 =>
some (x1, h1)
def f_AB_reverse_b28  : Nat → Option Nat → Option Nat → Int32 → Int32 → gk_H → Option ((Option Nat) × gk_H)
  | 0 => fun _ _ _ _ _ => none
  | fu + 1 => fun v0 v1 v3 v4 h =>
if v4 < 0 then
(some (v0, h))
else
(gk_let (v3 - v4) fun x1 =>
((gk_ald h v1 3 v4).bind gk_asI).bind fun x2 =>
((gk_ald h v1 3 x1).bind gk_asI).bind fun x3 =>
(gk_ast h v1 3 v4 (.int x3)).bind fun h1 =>
(gk_ast h1 v1 3 x1 (.int x2)).bind fun h2 =>
gk_let (v4 + (-1 : Int32)) fun x4 =>
(f_AB_reverse_b28 fu) v0 v1 v3 x4 h2)
def f_AB_reverse (a0 : Option Nat) (h : gk_H) : Option ((Option Nat) × gk_H) :=
((gk_get h a0 1 0).bind gk_asR).bind fun x1 =>
((gk_get h a0 1 3).bind gk_asI).bind fun x2 =>
gk_let (x2 - (1 : Int32)) fun x3 =>
gk_cv h a0 1 (f_AB_isLatin1 a0 h) fun x4 h1 =>
if x4 = 0 then
(none)
else
(gk_let ((x3 - (1 : Int32)) >>> ((1 : Int32) &&& 31)) fun x5 =>
f_AB_reverse_b28 gk_F a0 x1 x3 x5 h1)
def f_SB_reverse (a0 : Option Nat) (h : gk_H) : Option ((Option Nat) × gk_H) :=
gk_cv h a0 1 (f_AB_reverse a0 h) fun x1 h1 =>
some (a0, h1)
def f_AB_charAt (a0 : Option Nat) (a1 : Int32) (h : gk_H) : Option (Int32 × gk_H) :=
((gk_get h a0 1 1).bind gk_asI).bind fun x1 =>
((gk_get h a0 1 0).bind gk_asR).bind fun x2 =>
((gk_get h a0 1 3).bind gk_asI).bind fun x3 =>
(gk_len h x2).bind fun x4 =>
gk_ca (f_Ma_min_II x3 (x4 >>> (x1 &&& 31)) h) fun x5 h1 =>
gk_ca (f_St_checkIndex a1 x5 h1) fun _ h2 =>
if x1 = 0 then
(((gk_ald h2 x2 3 a1).bind gk_asI).bind fun x6 =>
if narrow .char (.int (UInt32.toInt32 (Int32.toUInt32 (x6 &&& (255 : Int32)) % 65536))) = .int (UInt32.toInt32 (Int32.toUInt32 (x6 &&& (255 : Int32)) % 65536)) then some ((UInt32.toInt32 (Int32.toUInt32 (x6 &&& (255 : Int32)) % 65536)), h2) else none)
else
(none)
def f_SB_charAt (a0 : Option Nat) (a1 : Int32) (h : gk_H) : Option (Int32 × gk_H) :=
gk_cv h a0 1 (f_AB_charAt a0 a1 h) fun x1 h1 =>
if narrow .char (.int x1) = .int x1 then some (x1, h1) else none
def f_AB_inflateIfNeededFor_b21   (h : gk_H) : Option (Unit × gk_H) :=
some ((), h)
def f_AB_inflateIfNeededFor (a0 : Option Nat) (a1 : Option Nat) (h : gk_H) : Option (Unit × gk_H) :=
(gk_asI (gk_gs h 0)).bind fun x1 =>
if x1 = 0 then
(f_AB_inflateIfNeededFor_b21 h)
else
(((gk_get h a0 1 1).bind gk_asI).bind fun x2 =>
gk_cv h a1 0 (f_St_coder a1 h) fun x3 h1 =>
if x2 = x3 then
(f_AB_inflateIfNeededFor_b21 h1)
else
(none))
def f_St_getBytes (a0 : Option Nat) (a1 : Option Nat) (a2 : Int32) (a3 : Int32) (h : gk_H) : Option (Unit × gk_H) :=
gk_cv h a0 0 (f_St_coder a0 h) fun x1 h1 =>
if x1 = a3 then
(((gk_get h1 a0 0 0).bind gk_asR).bind fun x2 =>
((gk_get h1 a0 0 0).bind gk_asR).bind fun x3 =>
(gk_len h1 x3).bind fun x4 =>
(gk_acp h1 x2 (0 : Int32) a1 (a2 <<< (a3 &&& 31)) x4).bind fun h2 =>
some ((), h2))
else
(none)
def f_AB_putStringAt (a0 : Option Nat) (a1 : Int32) (a2 : Option Nat) (h : gk_H) : Option (Unit × gk_H) :=
gk_cv h a0 1 (f_AB_inflateIfNeededFor a0 a2 h) fun _ h1 =>
((gk_get h1 a0 1 0).bind gk_asR).bind fun x1 =>
((gk_get h1 a0 1 1).bind gk_asI).bind fun x2 =>
gk_cv h1 a2 0 (f_St_getBytes a2 x1 a1 x2 h1) fun _ h2 =>
some ((), h2)
def f_AB_append_String (a0 : Option Nat) (a1 : Option Nat) (h : gk_H) : Option ((Option Nat) × gk_H) :=
if a1 ≠ none then
(gk_cv h a1 0 (f_St_length a1 h) fun x1 h1 =>
((gk_get h1 a0 1 3).bind gk_asI).bind fun x2 =>
gk_cv h1 a0 1 (f_AB_ensureCapacityInternal a0 (x2 + x1) h1) fun _ h2 =>
((gk_get h2 a0 1 3).bind gk_asI).bind fun x3 =>
gk_cv h2 a0 1 (f_AB_putStringAt a0 x3 a1 h2) fun _ h3 =>
((gk_get h3 a0 1 3).bind gk_asI).bind fun x4 =>
(gk_set h3 a0 1 3 (.int (x4 + x1))).bind fun h4 =>
some (a0, h4))
else
(none)
def f_SB_append_String (a0 : Option Nat) (a1 : Option Nat) (h : gk_H) : Option ((Option Nat) × gk_H) :=
gk_cv h a0 1 (f_AB_append_String a0 a1 h) fun x1 h1 =>
some (a0, h1)
def f_St_isEmpty_b13  (s0 : Int32) (h : gk_H) : Option (Int32 × gk_H) :=
if narrow .boolean (.int s0) = .int s0 then some (s0, h) else none
def f_St_isEmpty (a0 : Option Nat) (h : gk_H) : Option (Int32 × gk_H) :=
((gk_get h a0 0 0).bind gk_asR).bind fun x1 =>
(gk_len h x1).bind fun x2 =>
if x2 = 0 then
(f_St_isEmpty_b13 (1 : Int32) h)
else
(f_St_isEmpty_b13 (0 : Int32) h)
def f_Pr_checkFromToIndex (a0 : Int32) (a1 : Int32) (a2 : Int32) (a3 : Option Nat) (h : gk_H) : Option (Int32 × gk_H) :=
if a0 < 0 then
(none)
else
(if a1 < a0 then
(none)
else
(if a1 ≤ a2 then
(some (a0, h))
else
(none)))
def f_St_checkBoundsBeginEnd (a0 : Int32) (a1 : Int32) (a2 : Int32) (h : gk_H) : Option (Unit × gk_H) :=
(gk_asR (gk_gs h 1)).bind fun x1 =>
gk_ca (f_Pr_checkFromToIndex a0 a1 a2 x1 h) fun x2 h1 =>
some ((), h1)
def f_St_init_aBB (a0 : Option Nat) (a1 : Option Nat) (a2 : Int32) (h : gk_H) : Option (Unit × gk_H) :=
a0.bind fun _ =>
(gk_set h a0 0 0 (va_rf a1)).bind fun h1 =>
(gk_set h1 a0 0 1 (.int a2)).bind fun h2 =>
some ((), h2)
def f_S1_newString (a0 : Option Nat) (a1 : Int32) (a2 : Int32) (h : gk_H) : Option ((Option Nat) × gk_H) :=
if a2 = 0 then
(some ((some 12), h))
else
(gk_nw h 0 4 fun x1 h1 =>
gk_ca (f_Ya_copyOfRange a0 a1 (a1 + a2) h1) fun x2 h2 =>
gk_cv h2 x1 0 (f_St_init_aBB x1 x2 (0 : Int32) h2) fun _ h3 =>
some (x1, h3))
def f_St_substring_II_b22  (v0 : Option Nat) (v1 : Int32) (v2 : Int32) (h : gk_H) : Option ((Option Nat) × gk_H) :=
gk_let (v2 - v1) fun x1 =>
gk_cv h v0 0 (f_St_isLatin1 v0 h) fun x2 h1 =>
if x2 = 0 then
(none)
else
(((gk_get h1 v0 0 0).bind gk_asR).bind fun x3 =>
gk_ca (f_S1_newString x3 v1 x1 h1) fun x4 h2 =>
some (x4, h2))
def f_St_substring_II (a0 : Option Nat) (a1 : Int32) (a2 : Int32) (h : gk_H) : Option ((Option Nat) × gk_H) :=
gk_cv h a0 0 (f_St_length a0 h) fun x1 h1 =>
gk_ca (f_St_checkBoundsBeginEnd a1 a2 x1 h1) fun _ h2 =>
if a1 = 0 then
(if a2 = x1 then
(some (a0, h2))
else
(f_St_substring_II_b22 a0 a1 a2 h2))
else
(f_St_substring_II_b22 a0 a1 a2 h2)
def f_St_substring_I (a0 : Option Nat) (a1 : Int32) (h : gk_H) : Option ((Option Nat) × gk_H) :=
gk_cv h a0 0 (f_St_length a0 h) fun x1 h1 =>
gk_cv h1 a0 0 (f_St_substring_II a0 a1 x1 h1) fun x2 h2 =>
some (x2, h2)
def f_S1_equals_b9  : Nat → Option Nat → Option Nat → Int32 → gk_H → Option (Int32 × gk_H)
  | 0 => fun _ _ _ _ => none
  | fu + 1 => fun v0 v1 v2 h =>
(gk_len h v0).bind fun x1 =>
if x1 ≤ v2 then
(if narrow .boolean (.int (1 : Int32)) = .int (1 : Int32) then some ((1 : Int32), h) else none)
else
(((gk_ald h v0 3 v2).bind gk_asI).bind fun x2 =>
((gk_ald h v1 3 v2).bind gk_asI).bind fun x3 =>
if x2 = x3 then
(gk_let (v2 + (1 : Int32)) fun x4 =>
(f_S1_equals_b9 fu) v0 v1 x4 h)
else
(if narrow .boolean (.int (0 : Int32)) = .int (0 : Int32) then some ((0 : Int32), h) else none))
def f_S1_equals (a0 : Option Nat) (a1 : Option Nat) (h : gk_H) : Option (Int32 × gk_H) :=
(gk_len h a0).bind fun x1 =>
(gk_len h a1).bind fun x2 =>
if x1 = x2 then
(f_S1_equals_b9 gk_F a0 a1 (0 : Int32) h)
else
(if narrow .boolean (.int (0 : Int32)) = .int (0 : Int32) then some ((0 : Int32), h) else none)
def f_St_equals_b55  (s0 : Int32) (h : gk_H) : Option (Int32 × gk_H) :=
if narrow .boolean (.int s0) = .int s0 then some (s0, h) else none
def f_St_equals_b54   (h : gk_H) : Option (Int32 × gk_H) :=
f_St_equals_b55 (0 : Int32) h
def f_St_equals_b36  (v0 : Option Nat) (v2 : Option Nat) (h : gk_H) : Option (Int32 × gk_H) :=
((gk_get h v0 0 0).bind gk_asR).bind fun x1 =>
((gk_get h v2 0 0).bind gk_asR).bind fun x2 =>
gk_ca (f_S1_equals x1 x2 h) fun x3 h1 =>
if x3 = 0 then
(f_St_equals_b54 h1)
else
(f_St_equals_b55 (1 : Int32) h1)
def f_St_equals (a0 : Option Nat) (a1 : Option Nat) (h : gk_H) : Option (Int32 × gk_H) :=
a0.bind fun _ =>
(gk_iso h a1 0).bind fun x1 =>
if x1 = 0 then
(f_St_equals_b54 h)
else
((gk_cst h a1 0).bind fun _ =>
(gk_asI (gk_gs h 0)).bind fun x2 =>
if x2 = 0 then
(f_St_equals_b36 a0 a1 h)
else
(((gk_get h a0 0 1).bind gk_asI).bind fun x3 =>
((gk_get h a1 0 1).bind gk_asI).bind fun x4 =>
if x3 = x4 then
(f_St_equals_b36 a0 a1 h)
else
(f_St_equals_b54 h)))
def f_Ma_min_JJ_b11  (s0 : Int64) (h : gk_H) : Option (Int64 × gk_H) :=
some (s0, h)
def f_Ma_min_JJ (a0 : Int64) (a1 : Int64) (h : gk_H) : Option (Int64 × gk_H) :=
if 0 < (lg_cmp a0 a1) then
(f_Ma_min_JJ_b11 a1 h)
else
(f_Ma_min_JJ_b11 a0 h)
def f_Ma_max_JJ_b11  (s0 : Int64) (h : gk_H) : Option (Int64 × gk_H) :=
some (s0, h)
def f_Ma_max_JJ (a0 : Int64) (a1 : Int64) (h : gk_H) : Option (Int64 × gk_H) :=
if (lg_cmp a0 a1) < 0 then
(f_Ma_max_JJ_b11 a1 h)
else
(f_Ma_max_JJ_b11 a0 h)
def f_Ma_floorMod_b18  (v2 : Int32) (h : gk_H) : Option (Int32 × gk_H) :=
some (v2, h)
def f_Ma_floorMod (a0 : Int32) (a1 : Int32) (h : gk_H) : Option (Int32 × gk_H) :=
if a1 = 0 then none else
gk_let (a0 - a0 / a1 * a1) fun x1 =>
if 0 ≤ (a0 ^^^ a1) then
(f_Ma_floorMod_b18 x1 h)
else
(if x1 = 0 then
(f_Ma_floorMod_b18 x1 h)
else
(some ((x1 + a1), h)))
