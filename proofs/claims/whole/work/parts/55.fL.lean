/-! GENERATED: the law's functions -/
def gk_ch {α β : Type} (h : gk_H) (a : Option Nat) (c : Nat) (x : Option (Sum α String × gk_H)) (f : α → gk_H → Option β) (g : String → gk_H → Option β) : Option β := (gk_rcv h a c).bind fun _ => x.bind fun q => match q.1 with
  | .inl v => f v q.2
  | .inr E => g E q.2
def f_L_letter (a0 : Option Nat) (a1 : Int32) (a2 : Int32) (a3 : Int32) (a4 : Int32) (a5 : Option Nat) (h : gk_H) : Option (Int32 × gk_H) :=
gk_ch h a0 5 (f_A_letter a0 a1 a2 a3 a4 h) (fun x1 h1 =>
(gk_ast h1 a5 2 (0 : Int32) (.long (Int32.toInt64 x1))).bind fun h2 =>
some ((0 : Int32), h2)) (fun e h1 =>
if e = "java/lang/IndexOutOfBoundsException" then
(gk_let (some h1.1) fun x2 =>
some ((1 : Int32), (gk_cgt h1)))
else none)
def f_L_value (a0 : Option Nat) (a1 : Int32) (a2 : Int32) (a3 : Int32) (a4 : Option Nat) (h : gk_H) : Option (Int32 × gk_H) :=
gk_ch h a0 5 (f_A_value a0 a1 a2 a3 h) (fun x1 h1 =>
(gk_ast h1 a4 6 (0 : Int32) (.double x1)).bind fun h2 =>
some ((0 : Int32), h2)) (fun e h1 =>
if e = "java/lang/IndexOutOfBoundsException" then
(gk_let (some h1.1) fun x2 =>
some ((1 : Int32), (gk_cgt h1)))
else none)
def f_L_cell (a0 : Option Nat) (a1 : Int32) (a2 : Int32) (a3 : Int32) (a4 : Int32) (a5 : Option Nat) (h : gk_H) : Option (Int32 × gk_H) :=
gk_ch h a0 5 (f_A_cell a0 a1 a2 a3 a4 h) (fun x1 h1 =>
(gk_ast h1 a5 2 (0 : Int32) (.long (Int32.toInt64 x1))).bind fun h2 =>
some ((0 : Int32), h2)) (fun e h1 =>
if e = "java/lang/IndexOutOfBoundsException" then
(gk_let (some h1.1) fun x2 =>
some ((1 : Int32), (gk_cgt h1)))
else if e = "java/lang/IllegalArgumentException" then
(gk_let (some h1.1) fun x3 =>
some ((2 : Int32), (gk_cgt h1)))
else none)
def f_L_about (a0 : Option Nat) (a1 : Int32) (a2 : Int32) (a3 : Option Nat) (h : gk_H) : Option (Int32 × gk_H) :=
gk_ch h a0 5 (f_A_about a0 a1 a2 h) (fun x1 h1 =>
(gk_ast h1 a3 2 (0 : Int32) (.long (Int32.toInt64 x1))).bind fun h2 =>
some ((0 : Int32), h2)) (fun e h1 =>
if e = "java/lang/IndexOutOfBoundsException" then
(gk_let (some h1.1) fun x2 =>
some ((1 : Int32), (gk_cgt h1)))
else if e = "java/lang/IllegalArgumentException" then
(gk_let (some h1.1) fun x3 =>
some ((2 : Int32), (gk_cgt h1)))
else none)
def f_L_again (a0 : Option Nat) (a1 : Int32) (h : gk_H) : Option (Int32 × gk_H) :=
gk_ch h a0 5 (f_A_again a0 a1 h) (fun _ h1 =>
some ((0 : Int32), h1)) (fun e h1 =>
if e = "java/lang/IndexOutOfBoundsException" then
(gk_let (some h1.1) fun x1 =>
some ((1 : Int32), (gk_cgt h1)))
else if e = "java/lang/IllegalStateException" then
(gk_let (some h1.1) fun x2 =>
some ((2 : Int32), (gk_cgt h1)))
else none)
def f_L_drop (a0 : Option Nat) (h : gk_H) : Option (Int32 × gk_H) :=
gk_ch h a0 5 (f_A_drop a0 h) (fun _ h1 =>
some ((0 : Int32), h1)) (fun e h1 =>
if e = "java/lang/IllegalStateException" then
(gk_let (some h1.1) fun x1 =>
some ((1 : Int32), (gk_cgt h1)))
else none)
def f_L_call (a0 : Option Nat) (a1 : Int32) (a2 : Int32) (h : gk_H) : Option (Int32 × gk_H) :=
gk_ch h a0 5 (f_A_call a0 a1 a2 h) (fun _ h1 =>
some ((0 : Int32), h1)) (fun e h1 =>
if e = "java/lang/IllegalArgumentException" then
(gk_let (some h1.1) fun x1 =>
some ((1 : Int32), (gk_cgt h1)))
else if e = "java/lang/IllegalStateException" then
(gk_let (some h1.1) fun x2 =>
some ((2 : Int32), (gk_cgt h1)))
else none)
def f_L_operate (a0 : Option Nat) (a1 : Int32) (h : gk_H) : Option (Int32 × gk_H) :=
gk_ch h a0 5 (f_A_operate a0 a1 h) (fun _ h1 =>
some ((0 : Int32), h1)) (fun e h1 =>
if e = "java/lang/IllegalArgumentException" then
(gk_let (some h1.1) fun x1 =>
some ((1 : Int32), (gk_cgt h1)))
else none)
def f_L_array (a0 : Option Nat) (a1 : Int32) (a2 : Int32) (h : gk_H) : Option (Int32 × gk_H) :=
gk_ch h a0 5 (f_A_array a0 a1 a2 h) (fun _ h1 =>
some ((0 : Int32), h1)) (fun e h1 =>
if e = "java/lang/IllegalArgumentException" then
(gk_let (some h1.1) fun x1 =>
some ((1 : Int32), (gk_cgt h1)))
else none)
def f_L_plain (a0 : Option Nat) (a1 : Int32) (a2 : Int32) (h : gk_H) : Option (Int32 × gk_H) :=
gk_ch h a0 5 (f_A_plain a0 a1 a2 h) (fun _ h1 =>
some ((0 : Int32), h1)) (fun e h1 =>
if e = "java/lang/IllegalArgumentException" then
(gk_let (some h1.1) fun x1 =>
some ((1 : Int32), (gk_cgt h1)))
else if e = "java/lang/IllegalStateException" then
(gk_let (some h1.1) fun x2 =>
some ((2 : Int32), (gk_cgt h1)))
else none)
def f_L_text (a0 : Option Nat) (h : gk_H) : Option (Int32 × gk_H) :=
gk_ch h a0 5 (f_A_text a0 h) (fun _ h1 =>
some ((0 : Int32), h1)) (fun e h1 =>
if e = "java/lang/IllegalStateException" then
(gk_let (some h1.1) fun x1 =>
some ((1 : Int32), (gk_cgt h1)))
else none)
def f_L_type (a0 : Option Nat) (a1 : Int32) (a2 : Option Nat) (h : gk_H) : Option (Int32 × gk_H) :=
gk_ch h a0 5 (f_A_type a0 a1 h) (fun x1 h1 =>
(gk_ast h1 a2 2 (0 : Int32) (.long (Int32.toInt64 x1))).bind fun h2 =>
some ((0 : Int32), h2)) (fun e h1 =>
if e = "java/lang/IllegalArgumentException" then
(gk_let (some h1.1) fun x2 =>
some ((1 : Int32), (gk_cgt h1)))
else if e = "java/lang/IllegalStateException" then
(gk_let (some h1.1) fun x3 =>
some ((2 : Int32), (gk_cgt h1)))
else none)
def f_L_number (a0 : Option Nat) (a1 : UInt64) (h : gk_H) : Option (Int32 × gk_H) :=
gk_ch h a0 5 (f_A_number a0 a1 h) (fun _ h1 =>
some ((0 : Int32), h1)) (fun e h1 =>
if e = "java/lang/IllegalStateException" then
(gk_let (some h1.1) fun x1 =>
some ((1 : Int32), (gk_cgt h1)))
else none)
def f_L_law_b848 (b28 : Option Nat → Option Nat → Option Nat → Option Nat → Option Nat → Int32 → gk_H → Option (Int32 × gk_H)) (v0 : Option Nat) (v1 : Option Nat) (v2 : Option Nat) (v3 : Option Nat) (v4 : Option Nat) (v5 : Int32) (h : gk_H) : Option (Int32 × gk_H) :=
gk_let (v5 + (5 : Int32)) fun x1 =>
b28 v0 v1 v2 v3 v4 x1 h
def f_L_law_b215 (b28 : Option Nat → Option Nat → Option Nat → Option Nat → Option Nat → Int32 → gk_H → Option (Int32 × gk_H)) (v0 : Option Nat) (v1 : Option Nat) (v2 : Option Nat) (v3 : Option Nat) (v4 : Option Nat) (v5 : Int32) (h : gk_H) : Option (Int32 × gk_H) :=
f_L_law_b848 b28 v0 v1 v2 v3 v4 v5 h
def f_L_law_b560 (b28 : Option Nat → Option Nat → Option Nat → Option Nat → Option Nat → Int32 → gk_H → Option (Int32 × gk_H)) (v0 : Option Nat) (v1 : Option Nat) (v2 : Option Nat) (v3 : Option Nat) (v4 : Option Nat) (v5 : Int32) (h : gk_H) : Option (Int32 × gk_H) :=
f_L_law_b848 b28 v0 v1 v2 v3 v4 v5 h
def f_L_law_b652 (b28 : Option Nat → Option Nat → Option Nat → Option Nat → Option Nat → Int32 → gk_H → Option (Int32 × gk_H)) (v0 : Option Nat) (v1 : Option Nat) (v2 : Option Nat) (v3 : Option Nat) (v4 : Option Nat) (v5 : Int32) (h : gk_H) : Option (Int32 × gk_H) :=
f_L_law_b848 b28 v0 v1 v2 v3 v4 v5 h
def f_L_law_b753 (b28 : Option Nat → Option Nat → Option Nat → Option Nat → Option Nat → Int32 → gk_H → Option (Int32 × gk_H)) (v0 : Option Nat) (v1 : Option Nat) (v2 : Option Nat) (v3 : Option Nat) (v4 : Option Nat) (v5 : Int32) (h : gk_H) : Option (Int32 × gk_H) :=
f_L_law_b848 b28 v0 v1 v2 v3 v4 v5 h
def f_L_law_b751   (h : gk_H) : Option (Int32 × gk_H) :=
if narrow .boolean (.int (0 : Int32)) = .int (0 : Int32) then some ((0 : Int32), h) else none
def f_L_law_b845 (b28 : Option Nat → Option Nat → Option Nat → Option Nat → Option Nat → Int32 → gk_H → Option (Int32 × gk_H)) (v0 : Option Nat) (v1 : Option Nat) (v2 : Option Nat) (v3 : Option Nat) (v4 : Option Nat) (v5 : Int32) (h : gk_H) : Option (Int32 × gk_H) :=
f_L_law_b848 b28 v0 v1 v2 v3 v4 v5 h
def f_L_law_b28  : Nat → Option Nat → Option Nat → Option Nat → Option Nat → Option Nat → Int32 → gk_H → Option (Int32 × gk_H)
  | 0 => fun _ _ _ _ _ _ _ => none
  | fu + 1 => fun v0 v1 v2 v3 v4 v5 h =>
(gk_len h v0).bind fun x1 =>
if (x1 - (5 : Int32)) < v5 then
(if narrow .boolean (.int (1 : Int32)) = .int (1 : Int32) then some ((1 : Int32), h) else none)
else
(((gk_ald h v0 1 v5).bind gk_asI).bind fun x2 =>
gk_let (x2 &&& (15 : Int32)) fun x3 =>
if x3 = (0 : Int32) then
(((gk_ald h v0 1 (v5 + (1 : Int32))).bind gk_asI).bind fun x4 =>
gk_dop (FP.dmul (FP.i2d x4) (0x3fc0000000000000)) fun x5 =>
gk_ca (f_L_number v1 x5 h) fun x6 h1 =>
((gk_ald h1 v0 1 (v5 + (1 : Int32))).bind gk_asI).bind fun x7 =>
gk_dop (FP.dmul (FP.i2d x7) (0x3fc0000000000000)) fun x8 =>
gk_cv h1 v2 7 (f_M_number v2 x8 h1) fun _ h2 =>
gk_cv h2 v2 7 (f_M_thrown v2 h2) fun x9 h3 =>
if x9 = x6 then
(f_L_law_b848 (f_L_law_b28 fu) v0 v1 v2 v3 v4 v5 h3)
else
(if narrow .boolean (.int (0 : Int32)) = .int (0 : Int32) then some ((0 : Int32), h3) else none))
else if x3 = (1 : Int32) then
(((gk_ald h v0 1 (v5 + (1 : Int32))).bind gk_asI).bind fun x10 =>
gk_ca (f_L_type v1 x10 v3 h) fun x11 h4 =>
((gk_ald h4 v0 1 (v5 + (1 : Int32))).bind gk_asI).bind fun x12 =>
gk_cv h4 v2 7 (f_M_type v2 x12 h4) fun x13 h5 =>
gk_cv h5 v2 7 (f_M_thrown v2 h5) fun x14 h6 =>
if x14 = x11 then
(if x11 = 0 then
(((gk_ald h6 v3 2 (0 : Int32)).bind gk_asL).bind fun x15 =>
if (lg_cmp x15 (Int32.toInt64 x13)) = 0 then
(f_L_law_b215 (f_L_law_b28 fu) v0 v1 v2 v3 v4 v5 h6)
else
(if narrow .boolean (.int (0 : Int32)) = .int (0 : Int32) then some ((0 : Int32), h6) else none))
else
(f_L_law_b215 (f_L_law_b28 fu) v0 v1 v2 v3 v4 v5 h6))
else
(if narrow .boolean (.int (0 : Int32)) = .int (0 : Int32) then some ((0 : Int32), h6) else none))
else if x3 = (2 : Int32) then
(gk_ca (f_L_text v1 h) fun x16 h7 =>
gk_cv h7 v2 7 (f_M_text v2 h7) fun _ h8 =>
gk_cv h8 v2 7 (f_M_thrown v2 h8) fun x17 h9 =>
if x17 = x16 then
(f_L_law_b848 (f_L_law_b28 fu) v0 v1 v2 v3 v4 v5 h9)
else
(if narrow .boolean (.int (0 : Int32)) = .int (0 : Int32) then some ((0 : Int32), h9) else none))
else if x3 = (3 : Int32) then
(((gk_ald h v0 1 (v5 + (1 : Int32))).bind gk_asI).bind fun x18 =>
((gk_ald h v0 1 (v5 + (2 : Int32))).bind gk_asI).bind fun x19 =>
gk_ca (f_L_plain v1 x18 x19 h) fun x20 h10 =>
((gk_ald h10 v0 1 (v5 + (1 : Int32))).bind gk_asI).bind fun x21 =>
((gk_ald h10 v0 1 (v5 + (2 : Int32))).bind gk_asI).bind fun x22 =>
gk_cv h10 v2 7 (f_M_plain v2 x21 x22 h10) fun _ h11 =>
gk_cv h11 v2 7 (f_M_thrown v2 h11) fun x23 h12 =>
if x23 = x20 then
(f_L_law_b848 (f_L_law_b28 fu) v0 v1 v2 v3 v4 v5 h12)
else
(if narrow .boolean (.int (0 : Int32)) = .int (0 : Int32) then some ((0 : Int32), h12) else none))
else if x3 = (4 : Int32) then
(((gk_ald h v0 1 (v5 + (1 : Int32))).bind gk_asI).bind fun x24 =>
((gk_ald h v0 1 (v5 + (2 : Int32))).bind gk_asI).bind fun x25 =>
gk_ca (f_L_array v1 x24 x25 h) fun x26 h13 =>
((gk_ald h13 v0 1 (v5 + (1 : Int32))).bind gk_asI).bind fun x27 =>
((gk_ald h13 v0 1 (v5 + (2 : Int32))).bind gk_asI).bind fun x28 =>
gk_cv h13 v2 7 (f_M_array v2 x27 x28 h13) fun _ h14 =>
gk_cv h14 v2 7 (f_M_thrown v2 h14) fun x29 h15 =>
if x29 = x26 then
(f_L_law_b848 (f_L_law_b28 fu) v0 v1 v2 v3 v4 v5 h15)
else
(if narrow .boolean (.int (0 : Int32)) = .int (0 : Int32) then some ((0 : Int32), h15) else none))
else if x3 = (5 : Int32) then
(((gk_ald h v0 1 (v5 + (1 : Int32))).bind gk_asI).bind fun x30 =>
gk_ca (f_L_operate v1 x30 h) fun x31 h16 =>
((gk_ald h16 v0 1 (v5 + (1 : Int32))).bind gk_asI).bind fun x32 =>
gk_cv h16 v2 7 (f_M_operate v2 x32 h16) fun _ h17 =>
gk_cv h17 v2 7 (f_M_thrown v2 h17) fun x33 h18 =>
if x33 = x31 then
(f_L_law_b848 (f_L_law_b28 fu) v0 v1 v2 v3 v4 v5 h18)
else
(if narrow .boolean (.int (0 : Int32)) = .int (0 : Int32) then some ((0 : Int32), h18) else none))
else if x3 = (6 : Int32) then
(((gk_ald h v0 1 (v5 + (1 : Int32))).bind gk_asI).bind fun x34 =>
((gk_ald h v0 1 (v5 + (2 : Int32))).bind gk_asI).bind fun x35 =>
gk_ca (f_L_call v1 x34 x35 h) fun x36 h19 =>
((gk_ald h19 v0 1 (v5 + (1 : Int32))).bind gk_asI).bind fun x37 =>
((gk_ald h19 v0 1 (v5 + (2 : Int32))).bind gk_asI).bind fun x38 =>
gk_cv h19 v2 7 (f_M_call v2 x37 x38 h19) fun _ h20 =>
gk_cv h20 v2 7 (f_M_thrown v2 h20) fun x39 h21 =>
if x39 = x36 then
(f_L_law_b848 (f_L_law_b28 fu) v0 v1 v2 v3 v4 v5 h21)
else
(if narrow .boolean (.int (0 : Int32)) = .int (0 : Int32) then some ((0 : Int32), h21) else none))
else if x3 = (7 : Int32) then
(gk_ca (f_L_drop v1 h) fun x40 h22 =>
gk_cv h22 v2 7 (f_M_drop v2 h22) fun _ h23 =>
gk_cv h23 v2 7 (f_M_thrown v2 h23) fun x41 h24 =>
if x41 = x40 then
(f_L_law_b848 (f_L_law_b28 fu) v0 v1 v2 v3 v4 v5 h24)
else
(if narrow .boolean (.int (0 : Int32)) = .int (0 : Int32) then some ((0 : Int32), h24) else none))
else if x3 = (8 : Int32) then
(((gk_ald h v0 1 (v5 + (1 : Int32))).bind gk_asI).bind fun x42 =>
gk_ca (f_L_again v1 x42 h) fun x43 h25 =>
((gk_ald h25 v0 1 (v5 + (1 : Int32))).bind gk_asI).bind fun x44 =>
gk_cv h25 v2 7 (f_M_again v2 x44 h25) fun _ h26 =>
gk_cv h26 v2 7 (f_M_thrown v2 h26) fun x45 h27 =>
if x45 = x43 then
(f_L_law_b848 (f_L_law_b28 fu) v0 v1 v2 v3 v4 v5 h27)
else
(if narrow .boolean (.int (0 : Int32)) = .int (0 : Int32) then some ((0 : Int32), h27) else none))
else if x3 = (9 : Int32) then
(gk_cv h v1 5 (f_A_size v1 h) fun x46 h28 =>
gk_cv h28 v2 7 (f_M_size v2 h28) fun x47 h29 =>
if x46 = x47 then
(f_L_law_b848 (f_L_law_b28 fu) v0 v1 v2 v3 v4 v5 h29)
else
(if narrow .boolean (.int (0 : Int32)) = .int (0 : Int32) then some ((0 : Int32), h29) else none))
else if x3 = (10 : Int32) then
(((gk_ald h v0 1 (v5 + (1 : Int32))).bind gk_asI).bind fun x48 =>
((gk_ald h v0 1 (v5 + (2 : Int32))).bind gk_asI).bind fun x49 =>
gk_ca (f_L_about v1 x48 x49 v3 h) fun x50 h30 =>
((gk_ald h30 v0 1 (v5 + (1 : Int32))).bind gk_asI).bind fun x51 =>
((gk_ald h30 v0 1 (v5 + (2 : Int32))).bind gk_asI).bind fun x52 =>
gk_cv h30 v2 7 (f_M_about v2 x51 x52 h30) fun x53 h31 =>
gk_cv h31 v2 7 (f_M_thrown v2 h31) fun x54 h32 =>
if x54 = x50 then
(if x50 = 0 then
(((gk_ald h32 v3 2 (0 : Int32)).bind gk_asL).bind fun x55 =>
if (lg_cmp x55 (Int32.toInt64 x53)) = 0 then
(f_L_law_b560 (f_L_law_b28 fu) v0 v1 v2 v3 v4 v5 h32)
else
(if narrow .boolean (.int (0 : Int32)) = .int (0 : Int32) then some ((0 : Int32), h32) else none))
else
(f_L_law_b560 (f_L_law_b28 fu) v0 v1 v2 v3 v4 v5 h32))
else
(if narrow .boolean (.int (0 : Int32)) = .int (0 : Int32) then some ((0 : Int32), h32) else none))
else if x3 = (11 : Int32) then
(((gk_ald h v0 1 (v5 + (1 : Int32))).bind gk_asI).bind fun x56 =>
((gk_ald h v0 1 (v5 + (2 : Int32))).bind gk_asI).bind fun x57 =>
((gk_ald h v0 1 (v5 + (3 : Int32))).bind gk_asI).bind fun x58 =>
((gk_ald h v0 1 (v5 + (4 : Int32))).bind gk_asI).bind fun x59 =>
gk_ca (f_L_cell v1 x56 x57 x58 x59 v3 h) fun x60 h33 =>
((gk_ald h33 v0 1 (v5 + (1 : Int32))).bind gk_asI).bind fun x61 =>
((gk_ald h33 v0 1 (v5 + (2 : Int32))).bind gk_asI).bind fun x62 =>
((gk_ald h33 v0 1 (v5 + (3 : Int32))).bind gk_asI).bind fun x63 =>
((gk_ald h33 v0 1 (v5 + (4 : Int32))).bind gk_asI).bind fun x64 =>
gk_cv h33 v2 7 (f_M_cell v2 x61 x62 x63 x64 h33) fun x65 h34 =>
gk_cv h34 v2 7 (f_M_thrown v2 h34) fun x66 h35 =>
if x66 = x60 then
(if x60 = 0 then
(((gk_ald h35 v3 2 (0 : Int32)).bind gk_asL).bind fun x67 =>
if (lg_cmp x67 (Int32.toInt64 x65)) = 0 then
(f_L_law_b652 (f_L_law_b28 fu) v0 v1 v2 v3 v4 v5 h35)
else
(if narrow .boolean (.int (0 : Int32)) = .int (0 : Int32) then some ((0 : Int32), h35) else none))
else
(f_L_law_b652 (f_L_law_b28 fu) v0 v1 v2 v3 v4 v5 h35))
else
(if narrow .boolean (.int (0 : Int32)) = .int (0 : Int32) then some ((0 : Int32), h35) else none))
else if x3 = (12 : Int32) then
(((gk_ald h v0 1 (v5 + (1 : Int32))).bind gk_asI).bind fun x68 =>
((gk_ald h v0 1 (v5 + (2 : Int32))).bind gk_asI).bind fun x69 =>
((gk_ald h v0 1 (v5 + (3 : Int32))).bind gk_asI).bind fun x70 =>
gk_ca (f_L_value v1 x68 x69 x70 v4 h) fun x71 h36 =>
((gk_ald h36 v0 1 (v5 + (1 : Int32))).bind gk_asI).bind fun x72 =>
((gk_ald h36 v0 1 (v5 + (2 : Int32))).bind gk_asI).bind fun x73 =>
((gk_ald h36 v0 1 (v5 + (3 : Int32))).bind gk_asI).bind fun x74 =>
gk_cv h36 v2 7 (f_M_value v2 x72 x73 x74 h36) fun x75 h37 =>
gk_cv h37 v2 7 (f_M_thrown v2 h37) fun x76 h38 =>
if x76 = x71 then
(if x71 = 0 then
(((gk_ald h38 v4 6 (0 : Int32)).bind gk_asD).bind fun x77 =>
if (Op.cmpValue (FP.dcmp x77 x75) .l) = 0 then
(f_L_law_b753 (f_L_law_b28 fu) v0 v1 v2 v3 v4 v5 h38)
else
(((gk_ald h38 v4 6 (0 : Int32)).bind gk_asD).bind fun x78 =>
((gk_ald h38 v4 6 (0 : Int32)).bind gk_asD).bind fun x79 =>
if (Op.cmpValue (FP.dcmp x78 x79) .l) = 0 then
(f_L_law_b751 h38)
else
(if (Op.cmpValue (FP.dcmp x75 x75) .l) = 0 then
(f_L_law_b751 h38)
else
(f_L_law_b753 (f_L_law_b28 fu) v0 v1 v2 v3 v4 v5 h38))))
else
(f_L_law_b753 (f_L_law_b28 fu) v0 v1 v2 v3 v4 v5 h38))
else
(if narrow .boolean (.int (0 : Int32)) = .int (0 : Int32) then some ((0 : Int32), h38) else none))
else if x3 = (13 : Int32) then
(((gk_ald h v0 1 (v5 + (1 : Int32))).bind gk_asI).bind fun x80 =>
((gk_ald h v0 1 (v5 + (2 : Int32))).bind gk_asI).bind fun x81 =>
((gk_ald h v0 1 (v5 + (3 : Int32))).bind gk_asI).bind fun x82 =>
((gk_ald h v0 1 (v5 + (4 : Int32))).bind gk_asI).bind fun x83 =>
gk_ca (f_L_letter v1 x80 x81 x82 x83 v3 h) fun x84 h39 =>
((gk_ald h39 v0 1 (v5 + (1 : Int32))).bind gk_asI).bind fun x85 =>
((gk_ald h39 v0 1 (v5 + (2 : Int32))).bind gk_asI).bind fun x86 =>
((gk_ald h39 v0 1 (v5 + (3 : Int32))).bind gk_asI).bind fun x87 =>
((gk_ald h39 v0 1 (v5 + (4 : Int32))).bind gk_asI).bind fun x88 =>
gk_cv h39 v2 7 (f_M_letter v2 x85 x86 x87 x88 h39) fun x89 h40 =>
gk_cv h40 v2 7 (f_M_thrown v2 h40) fun x90 h41 =>
if x90 = x84 then
(if x84 = 0 then
(((gk_ald h41 v3 2 (0 : Int32)).bind gk_asL).bind fun x91 =>
if (lg_cmp x91 (Int32.toInt64 x89)) = 0 then
(f_L_law_b845 (f_L_law_b28 fu) v0 v1 v2 v3 v4 v5 h41)
else
(if narrow .boolean (.int (0 : Int32)) = .int (0 : Int32) then some ((0 : Int32), h41) else none))
else
(f_L_law_b845 (f_L_law_b28 fu) v0 v1 v2 v3 v4 v5 h41))
else
(if narrow .boolean (.int (0 : Int32)) = .int (0 : Int32) then some ((0 : Int32), h41) else none))
else 
(f_L_law_b848 (f_L_law_b28 fu) v0 v1 v2 v3 v4 v5 h))
def f_L_law (a0 : Option Nat) (h : gk_H) : Option (Int32 × gk_H) :=
gk_nw h 5 4 fun x1 h1 =>
gk_cv h1 x1 5 (f_A_init x1 h1) fun _ h2 =>
gk_nw h2 7 25 fun x2 h3 =>
gk_cv h3 x2 7 (f_M_init x2 h3) fun _ h4 =>
gk_na h4 2 (1 : Int32) fun x3 h5 =>
gk_na h5 6 (1 : Int32) fun x4 h6 =>
f_L_law_b28 gk_F a0 x1 x2 x3 x4 (0 : Int32) h6
