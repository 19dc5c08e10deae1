/-! THE LAW'S START: arrays, texts, the world -/
def gk_fl : List Cond := flatC (Jvm.Cond.and given_1 narrow_1)
theorem gk_piece {k n : Nat} {f : Nat → Cond} (h : (gk_fl.drop k).take n = (List.range n).map f) : ∀ j, j < n → f j ∈ gk_fl := fun j hj => List.mem_of_mem_drop (List.mem_of_mem_take (by rw [h]; exact List.mem_map.mpr ⟨j, List.mem_range.mpr hj, rfl⟩))
theorem gk_few_in : (gk_fl.drop 220).take 92 = (List.range 92).map (fun j => Cond.eq (.elem (.static "ValueAlgebra" "FEWEST" "[I") (.int (Int32.ofNat j))) (.int (gI (fwL.getD j 0)))) := by decide +kernel
theorem gk_most_in : (gk_fl.drop 315).take 92 = (List.range 92).map (fun j => Cond.eq (.elem (.static "ValueAlgebra" "MOST" "[I") (.int (Int32.ofNat j))) (.int (gI (moL.getD j 0)))) := by decide +kernel
theorem gk_days_in : (gk_fl.drop 410).take 12 = (List.range 12).map (fun j => Cond.eq (.elem (.static "ValueAlgebra$Days" "DAYS_BEFORE" "[I") (.int (Int32.ofNat j))) (.int (gI (dB.getD j 0)))) := by decide +kernel
theorem gk_arr_at {args : Array Value} {s : State} {A : Nat → Prop} {C n : String} {N : Nat} {l : List Nat} (hs : ∀ c ∈ gk_fl, c.before args s = true) (hN : N < 2 ^ 31) (h1 : Cond.arrayOf (.static C n "[I") .int ∈ gk_fl) (h2 : Cond.eq (.length (.static C n "[I")) (.int (Int32.ofNat N)) ∈ gk_fl) (h3 : ∀ j, j < N → Cond.eq (.elem (.static C n "[I") (.int (Int32.ofNat j))) (.int (gI (l.getD j 0))) ∈ gk_fl) (hA : ∀ a : Nat, a < s.heap.size → ¬ A a) : ∃ t : Nat, (Term.static C n "[I").eval args s none [] s = some (.ref t) ∧ va_T .int t N (gb0 l) A s s.heap :=
  va_Tof hN (hs _ h1) (va_eqt (hs _ h2)) (fun j hj => va_eqt (hs _ (h3 j hj))) hA
def gk_fv (own : String) (k : Nat) : Term := .field (.string own k) "java/lang/String" "value" "[B"
/-- a text by its constant -/
def gk_tx (own : String) (k : Nat) (tx : String) (l : List Nat) (a t : Nat) (A : Nat → Prop) (s : State) : Prop := vk_R own k tx a s ∧ va_O "java/lang/String" a A s s.heap ∧ va_OF "java/lang/String" "coder" "B" (.int 0) a A s s.heap ∧ va_OF "java/lang/String" "value" "[B" (.ref t) a A s s.heap ∧ va_T .byte t l.length (gb0 l) A s s.heap
theorem gk_tx_at {args : Array Value} {s : State} {A : Nat → Prop} {own tx : String} {k : Nat} {l : List Nat} (hs : ∀ c ∈ gk_fl, c.before args s = true) (hr : (Cond.stringRef own k tx).before args s = true) (hl : l.length < 2 ^ 31) (h1 : Cond.exactly (.string own k) "java/lang/String" ∈ gk_fl) (h2 : Cond.eq (.field (.string own k) "java/lang/String" "coder" "B") (.int 0) ∈ gk_fl) (h3 : Cond.arrayOf (gk_fv own k) .byte ∈ gk_fl) (h4 : Cond.eq (.length (gk_fv own k)) (.int (Int32.ofNat l.length)) ∈ gk_fl) (h5 : ∀ j, j < l.length → Cond.eq (.elem (gk_fv own k) (.int (Int32.ofNat j))) (.int (gI (l.getD j 0))) ∈ gk_fl) (hA : ∀ a : Nat, a < s.heap.size → ¬ A a) : ∃ a t : Nat, gk_tx own k tx l a t A s := by
  obtain ⟨a, c, cA, kA, q1, q2, q3, q4, q5, q6, -⟩ := Cond.exactly_spec (args := args) (first := s) (o := none) (s := s) (idx := []) (t := .string own k) (cls := "java/lang/String") (hs _ h1)
  obtain ⟨t, ht, hT⟩ := va_Tof (f := gb0 l) (A := A) hl (hs _ h3) (va_eqt (hs _ h4)) (fun j hj => va_eqt (hs _ (h5 j hj))) hA
  exact ⟨a, t, vk_R.of hr q1, ⟨cA, q3, q5, by rw [q6]; exact q2, hA a (Array.getElem?_eq_some_iff.mp q3).1⟩, vk_OFof q1 (va_eqt (hs _ h2)) hA, vk_OFof q1 ht hA, hT⟩
theorem gk_at_T {D : va_G} {ad : Nat → Nat} {s : State} {i t n : Nat} {ty : FieldType} {f g : Nat → Value} {A : Nat → Prop} (hi : i < 16) (he : gk_el t = some ty) (hty : ∀ C, ty ≠ .object C) (h : va_T ty (ad i) n f A s s.heap) (hf : ∀ j, gk_v ad (g j) = f j) : gk_at D ad s s.heap i (t, n, g) := by
  obtain ⟨cell, h1, h2, h3, h4, h5, h6, -⟩ := h
  unfold gk_at
  rw [he]
  exact ⟨cell, h1, ⟨h2, h3, h4, h5, fun j hj => by rw [hf]; exact h6 j hj, fun C hC => absurd hC (hty C)⟩, fun h => absurd h (Nat.not_le.mpr hi)⟩
theorem gk_at_S {D : va_G} {ad : Nat → Nat} {s : State} {i v : Nat} {A : Nat → Prop} (hK : gk_K D s) (hi : i < 16) (hO : va_O "java/lang/String" (ad i) A s s.heap) (hc : va_OF "java/lang/String" "coder" "B" (.int 0) (ad i) A s s.heap) (hv : va_OF "java/lang/String" "value" "[B" (.ref (ad v)) (ad i) A s s.heap) : gk_at D ad s s.heap i (10, 2, gs0 v) := by
  obtain ⟨cell, o1, o2, o3, -⟩ := hO
  obtain ⟨cf, k, fi, f, cell2, c1, c2, c3, c4, c5, -⟩ := hc
  obtain ⟨cf', k', fi', f', cell3, v1, v2, v3, v4, v5, -⟩ := hv
  cases o1.symm.trans c3
  cases o1.symm.trans v3
  obtain ⟨k1, k2, -⟩ := hK 0 ("java/lang/String", gk_T0, 2) rfl
  refine ⟨cell, o1, Nat.le_refl _, ("java/lang/String", gk_T0, 2), rfl, rfl, Option.some.inj (o3.symm.trans k2), o2, c4, fun h => absurd h (Nat.not_le.mpr hi), fun j hj => ?_⟩
  obtain ⟨a1, a2, a3, a4, a5, a6⟩ := k1 j hj
  match j, hj with
  | 0, _ =>
    cases a5.symm.trans v1
    show cell.slots[D.2 0 0]? = some (Value.ref (ad v))
    rw [← a6]
    exact v5
  | 1, _ =>
    cases a5.symm.trans c1
    show cell.slots[D.2 0 1]? = some (Value.int 0)
    rw [← a6]
    exact c5
def gk_ad (t1 t2 t3 a4 a5 a6 a7 a8 a9 a10 a11 a12 a13 b q : Nat) : Nat → Nat
  | 1 => t1 | 2 => t2 | 3 => t3 | 4 => a4 | 5 => a5 | 6 => a6 | 7 => a7 | 8 => a8 | 9 => a9 | 10 => a10 | 11 => a11 | 12 => a12 | 13 => a13 | 14 => b | _ => q
theorem gk_g0f {z : Option Nat} {Ls : Nat} {xs : Nat → Int32} (i : Nat) (h : 1 ≤ i) : g0f z (g0 Ls xs) i = g0 Ls xs i := if_neg (by omega)
set_option maxHeartbeats 1000000 in
theorem gk_begin {args : Array Value} {s : State} {b Ls : Nat} {xs : Nat → Int32} (hts : ∀ w ∈ lw_tbl, w.before args s = true) (hgv : (Jvm.Cond.and given_1 narrow_1).before args s = true) (hX : va_X b Ls xs s s.heap) (hL : Ls < 2 ^ 31) : ∃ (D : va_G) (ad : Nat → Nat) (z : Option Nat), gk_R D ad s.heap.size (16, 0, g0f z (g0 Ls xs)) s s.heap ∧ gk_N ad s ∧ ad 14 = b := by
  have hs : ∀ c ∈ gk_fl, c.before args s = true := flat_of_before _ hgv
  have in_t : ∀ u, u ∈ tables_1 → u.before args s = true := fun u hu => hts _ (List.mem_append_right _ hu)
  have hA : ∀ a : Nat, a < s.heap.size → ¬ (fun a => s.heap.size ≤ a) a := fun a h => Nat.not_le.mpr h
  obtain ⟨D, hK⟩ := gk_K_at (gk_T_at hts)
  obtain ⟨t1, e1, T1⟩ := gk_arr_at (A := fun a => s.heap.size ≤ a) (C := "ValueAlgebra") (n := "FEWEST") (N := 92) (l := fwL) hs (by decide) (by decide +kernel) (by decide +kernel) (gk_piece gk_few_in) hA
  obtain ⟨t2, e2, T2⟩ := gk_arr_at (A := fun a => s.heap.size ≤ a) (C := "ValueAlgebra") (n := "MOST") (N := 92) (l := moL) hs (by decide) (by decide +kernel) (by decide +kernel) (gk_piece gk_most_in) hA
  obtain ⟨t3, e3, T3⟩ := gk_arr_at (A := fun a => s.heap.size ≤ a) (C := "ValueAlgebra$Days") (n := "DAYS_BEFORE") (N := 12) (l := dB) hs (by decide) (by decide +kernel) (by decide +kernel) (gk_piece gk_days_in) hA
  obtain ⟨a4, a5, x4, o4, c4, v4, b4⟩ := gk_tx_at (A := fun a => s.heap.size ≤ a) (own := "ValueAlgebra$Value") (k := 36) (tx := "") (l := []) hs (in_t _ (by decide +kernel)) (by decide) (by decide +kernel) (by decide +kernel) (by decide +kernel) (by decide +kernel) (by decide +kernel) hA
  obtain ⟨a6, a7, x6, o6, c6, v6, b6⟩ := gk_tx_at (A := fun a => s.heap.size ≤ a) (own := "ValueAlgebra$Arguments") (k := 110) (tx := "TRUE") (l := [84, 82, 85, 69]) hs (in_t _ (by decide +kernel)) (by decide) (by decide +kernel) (by decide +kernel) (by decide +kernel) (by decide +kernel) (by decide +kernel) hA
  obtain ⟨a8, a9, x8, o8, c8, v8, b8⟩ := gk_tx_at (A := fun a => s.heap.size ≤ a) (own := "ValueAlgebra$Arguments") (k := 112) (tx := "FALSE") (l := [70, 65, 76, 83, 69]) hs (in_t _ (by decide +kernel)) (by decide) (by decide +kernel) (by decide +kernel) (by decide +kernel) (by decide +kernel) (by decide +kernel) hA
  obtain ⟨a10, a11, x10, o10, c10, v10, b10⟩ := gk_tx_at (A := fun a => s.heap.size ≤ a) (own := "ValueAlgebra$Arguments") (k := 117) (tx := "") (l := []) hs (in_t _ (by decide +kernel)) (by decide) (by decide +kernel) (by decide +kernel) (by decide +kernel) (by decide +kernel) (by decide +kernel) hA
  obtain ⟨a12, a13, x12, o12, c12, v12, b12⟩ := gk_tx_at (A := fun a => s.heap.size ≤ a) (own := "java/lang/StringLatin1") (k := 151) (tx := "") (l := []) hs (in_t _ (by decide +kernel)) (by decide) (by decide +kernel) (by decide +kernel) (by decide +kernel) (by decide +kernel) (by decide +kernel) hA
  have hq : ∃ (q : Nat) (z : Option Nat), (z = none ∨ z = some 15) ∧ (Term.static "jdk/internal/util/Preconditions" "SIOOBE_FORMATTER" "Ljava/util/function/BiFunction;").eval args s none [] s = some (gk_v (fun _ => q) (va_rf z)) := by
    obtain ⟨v, hv, hr⟩ := Cond.isRef_spec (hs (.isRef (.static "jdk/internal/util/Preconditions" "SIOOBE_FORMATTER" "Ljava/util/function/BiFunction;")) (by decide +kernel))
    cases v with
    | null => exact ⟨0, none, Or.inl rfl, hv⟩
    | ref q => exact ⟨q, some 15, Or.inr rfl, hv⟩
    | _ => exact absurd hr (by simp [Value.isRef])
  obtain ⟨q, z, hz, hq⟩ := hq
  have hlist : ∀ (i : Nat), gk_lv ((g0f z (g0 Ls xs)) i).1 = true → gk_at D (gk_ad t1 t2 t3 a4 a5 a6 a7 a8 a9 a10 a11 a12 a13 b q) s s.heap i (g0f z (g0 Ls xs) i) := by
    intro i hi
    match i, hi with
    | 0, hi => exact absurd (show gk_lv 9 = true from hi) (by decide)
    | 1, _ => exact gk_at_T (ty := .int) (by decide) rfl (fun C h => nomatch h) T1 (fun _ => rfl)
    | 2, _ => exact gk_at_T (ty := .int) (by decide) rfl (fun C h => nomatch h) T2 (fun _ => rfl)
    | 3, _ => exact gk_at_T (ty := .int) (by decide) rfl (fun C h => nomatch h) T3 (fun _ => rfl)
    | 4, _ => exact gk_at_S hK (by decide) o4 c4 v4
    | 5, _ => exact gk_at_T (ty := .byte) (by decide) rfl (fun C h => nomatch h) b4 (fun _ => rfl)
    | 6, _ => exact gk_at_S hK (by decide) o6 c6 v6
    | 7, _ => exact gk_at_T (ty := .byte) (by decide) rfl (fun C h => nomatch h) b6 (fun _ => rfl)
    | 8, _ => exact gk_at_S hK (by decide) o8 c8 v8
    | 9, _ => exact gk_at_T (ty := .byte) (by decide) rfl (fun C h => nomatch h) b8 (fun _ => rfl)
    | 10, _ => exact gk_at_S hK (by decide) o10 c10 v10
    | 11, _ => exact gk_at_T (ty := .byte) (by decide) rfl (fun C h => nomatch h) b10 (fun _ => rfl)
    | 12, _ => exact gk_at_S hK (by decide) o12 c12 v12
    | 13, _ => exact gk_at_T (ty := .byte) (by decide) rfl (fun C h => nomatch h) b12 (fun _ => rfl)
    | 14, _ =>
      obtain ⟨scr, y1, y2, y3, y4, y5⟩ := hX
      exact ⟨scr, y1, ⟨y2, y3, Nat.le_of_eq y4.symm, by rw [y4]; rfl, fun j hj => y5 j hj, fun C hC => nomatch hC⟩, fun h => absurd h (by decide)⟩
    | n + 15, hi => exact absurd hi (by simp only [gk_g0f _ (show 1 ≤ n + 15 by omega)]; exact Bool.false_ne_true)
  have hzero : ∀ i, 15 ≤ i → (g0f z (g0 Ls xs) i).1 = 0 := by
    intro i hi
    match i, hi with
    | n + 15, _ => rw [gk_g0f _ (show 1 ≤ n + 15 by omega)]; rfl
  have hlt : ∀ i, gk_lv ((g0f z (g0 Ls xs)) i).1 = true → i < 15 := fun i hi => Nat.lt_of_not_le fun w => by rw [hzero i w] at hi; exact absurd hi (by decide)
  refine ⟨D, gk_ad t1 t2 t3 a4 a5 a6 a7 a8 a9 a10 a11 a12 a13 b q, z, ⟨hlist, fun i j h1 h2 h3 => ?_, fun i hi => hzero i (by have : 16 ≤ i := hi; omega), fun i hi => ⟨fun w => ?_, fun w => ?_⟩, fun i k hi hk => ?_, Nat.le_refl _, Nat.le_refl _, rfl, rfl, hK, ⟨fun k w hw => ?_, ?_, ?_⟩⟩, ?_, rfl⟩
  · have := hlt i h3
    have : 16 ≤ i := h1
    omega
  · have := (hlist i hi).lt
    omega
  · have := hlt i hi
    have : 16 ≤ i := w
    omega
  · show gk_ok 16 ((g0f z (g0 Ls xs) i).2.2 k)
    match i, hi with
    | 0, _ =>
      rcases hz with rfl | rfl
      · match k with
        | 0 => trivial
        | 1 => trivial
        | 2 => exact (by decide : 1 < 16)
        | 3 => exact (by decide : 2 < 16)
        | n + 4 => exact (by decide : 3 < 16)
      · match k with
        | 0 => trivial
        | 1 => exact (by decide : 15 < 16)
        | 2 => exact (by decide : 1 < 16)
        | 3 => exact (by decide : 2 < 16)
        | n + 4 => exact (by decide : 3 < 16)
    | 1, _ => trivial
    | 2, _ => trivial
    | 3, _ => trivial
    | 4, _ =>
      match k with
      | 0 => exact (by decide : 5 < 16)
      | n + 1 => trivial
    | 5, _ => trivial
    | 6, _ =>
      match k with
      | 0 => exact (by decide : 7 < 16)
      | n + 1 => trivial
    | 7, _ => trivial
    | 8, _ =>
      match k with
      | 0 => exact (by decide : 9 < 16)
      | n + 1 => trivial
    | 9, _ => trivial
    | 10, _ =>
      match k with
      | 0 => exact (by decide : 11 < 16)
      | n + 1 => trivial
    | 11, _ => trivial
    | 12, _ =>
      match k with
      | 0 => exact (by decide : 13 < 16)
      | n + 1 => trivial
    | 13, _ => trivial
    | 14, _ => trivial
    | n + 15, hi => exact absurd (hzero (n + 15) (by omega)) hi
  · match k, hw with
    | 0, hw =>
      cases hw
      exact va_Zof (in_t _ (by decide +kernel)) (in_t _ (by decide +kernel)) (va_eqi (hs _ (by decide +kernel))) hA
    | 1, hw =>
      cases hw
      refine va_Zof (in_t _ (by decide +kernel)) (in_t _ (by decide +kernel)) ?_ hA
      rw [hq]
      rcases hz with rfl | rfl <;> rfl
    | 2, hw =>
      cases hw
      exact va_Zof (in_t _ (by decide +kernel)) (in_t _ (by decide +kernel)) e1 hA
    | 3, hw =>
      cases hw
      exact va_Zof (in_t _ (by decide +kernel)) (in_t _ (by decide +kernel)) e2 hA
    | 4, hw =>
      cases hw
      exact va_Zof (in_t _ (by decide +kernel)) (in_t _ (by decide +kernel)) e3 hA
    | n + 5, hw => simp [gk_sf] at hw
  · exact vx_Zqof (in_t _ (by decide +kernel)) (in_t _ (by decide +kernel)) (hs _ (by decide +kernel)) hA
  · exact vx_Zqof (in_t _ (by decide +kernel)) (in_t _ (by decide +kernel)) (hs _ (by decide +kernel)) hA
  · obtain ⟨n1, n2, n3, n4⟩ := gk_N_tabs hts hgv
    refine ⟨n1, n2, n3, n4, fun r hr => ?_, gk_ms_at hts⟩
    simp only [gk_sr, List.mem_cons, List.not_mem_nil, or_false] at hr
    rcases hr with rfl | rfl | rfl | rfl | rfl
    · exact x4
    · exact x6
    · exact x8
    · exact x10
    · exact x12
