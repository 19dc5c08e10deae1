/-! String.equals: where the two are the same, it says so -/
theorem gk_S1_same {h : gk_H} {b1 b2 : Nat} (hE : ∀ k v1 v2, k < (h.2.2 b1).2.1 → k < (h.2.2 b2).2.1 → gk_asI ((h.2.2 b1).2.2 k) = some v1 → gk_asI ((h.2.2 b2).2.2 k) = some v2 → v1 = v2) : ∀ (fu : Nat) (k : Int32) (r : Int32) (h' : gk_H), f_S1_equals_b9 fu (some b1) (some b2) k h = some (r, h') → (r, h') = (1, h) := by
  intro fu
  induction fu with
  | zero => intro k r h' hx; cases hx
  | succ fu ih =>
    intro k r h' hx
    rw [f_S1_equals_b9] at hx
    obtain ⟨n, -, hx⟩ := Option.bind_eq_some_iff.mp hx
    by_cases hk : n ≤ k
    · rw [if_pos hk, if_pos (by decide)] at hx
      exact (Option.some.inj hx).symm
    · rw [if_neg hk] at hx
      obtain ⟨v1, h1, hx⟩ := Option.bind_eq_some_iff.mp hx
      obtain ⟨v2, h2, hx⟩ := Option.bind_eq_some_iff.mp hx
      obtain ⟨w1, h1, g1⟩ := Option.bind_eq_some_iff.mp h1
      obtain ⟨w2, h2, g2⟩ := Option.bind_eq_some_iff.mp h2
      unfold gk_ald at h1 h2
      have hv : v1 = v2 := by
        by_cases t1 : (h.2.2 b1).1 = 3 ∧ gk_inb (h.2.2 b1).2.1 k = true
        · by_cases t2 : (h.2.2 b2).1 = 3 ∧ gk_inb (h.2.2 b2).2.1 k = true
          · simp only [if_pos t1, if_pos t2] at h1 h2
            cases h1
            cases h2
            have p1 := of_decide_eq_true t1.2
            have p2 := of_decide_eq_true t2.2
            exact hE _ v1 v2 (Nat.not_le.mp fun q => p1 (Or.inr q)) (Nat.not_le.mp fun q => p2 (Or.inr q)) g1 g2
          · simp only [if_neg t2] at h2
            cases h2
        · simp only [if_neg t1] at h1
          cases h1
      rw [if_pos hv] at hx
      exact ih _ r h' hx
theorem gk_asI_eq {v : Value} {i : Int32} (h : gk_asI v = some i) : v = .int i := by
  cases v <;> simp_all [gk_asI]
theorem gk_asR_eq {v : Value} {i : Option Nat} (h : gk_asR v = some i) : v = va_rf i := by
  cases v <;> simp_all [gk_asR] <;> subst h <;> rfl
theorem gk_get_eq {h : gk_H} {i c k : Nat} {v : Value} (hx : gk_get h (some i) c k = some v) : (h.2.2 i).1 = 10 + c ∧ (h.2.2 i).2.2 k = v := by
  unfold gk_get at hx
  by_cases ht : (h.2.2 i).1 = 10 + c
  · simp only [if_pos ht] at hx
    exact ⟨ht, Option.some.inj hx⟩
  · simp only [if_neg ht] at hx
    cases hx
/-- two texts at one address: their fields are the same -/
theorem gk_same_fld {D : va_G} {ad : Nat → Nat} {B : Nat} {h : gk_H} {s : State} {H : Heap} (hr : gk_R D ad B h s H) {i j k : Nat} (he : ad i = ad j) (hi : (h.2.2 i).1 = 10) (hj : (h.2.2 j).1 = 10) (hk : k < 2) : gk_v ad ((h.2.2 i).2.2 k) = gk_v ad ((h.2.2 j).2.2 k) := by
  obtain ⟨c1, g1, -, r1, q1, -, -, -, -, -, f1⟩ := gk_at_obj hr (c := 0) hi
  obtain ⟨c2, g2, -, r2, q2, -, -, -, -, -, f2⟩ := gk_at_obj hr (c := 0) hj
  rw [he] at g1
  cases g1.symm.trans g2
  rw [hi] at q1 f1
  rw [hj] at q2 f2
  cases q1
  cases q2
  exact Option.some.inj ((f1 k hk).symm.trans (f2 k hk))
theorem gk_el_ex {t : Nat} (h : 1 ≤ t ∧ t ≤ 7) : ∃ ty, gk_el t = some ty := by
  obtain ⟨q1, q2⟩ := h
  match t, q1, q2 with
  | 1, _, _ => exact ⟨_, rfl⟩
  | 2, _, _ => exact ⟨_, rfl⟩
  | 3, _, _ => exact ⟨_, rfl⟩
  | 4, _, _ => exact ⟨_, rfl⟩
  | 5, _, _ => exact ⟨_, rfl⟩
  | 6, _, _ => exact ⟨_, rfl⟩
  | 7, _, _ => exact ⟨_, rfl⟩
theorem gk_same_len {D : va_G} {ad : Nat → Nat} {B : Nat} {h : gk_H} {s : State} {H : Heap} (hr : gk_R D ad B h s H) {i j : Nat} (he : ad i = ad j) (hi : 1 ≤ (h.2.2 i).1 ∧ (h.2.2 i).1 ≤ 7) (hj : 1 ≤ (h.2.2 j).1 ∧ (h.2.2 j).1 ≤ 7) :
    Int32.ofNat (h.2.2 i).2.1 = Int32.ofNat (h.2.2 j).2.1 ∧ ∀ k, k < (h.2.2 i).2.1 → k < (h.2.2 j).2.1 → gk_v ad ((h.2.2 i).2.2 k) = gk_v ad ((h.2.2 j).2.2 k) := by
  obtain ⟨ty1, hty1⟩ := gk_el_ex hi
  obtain ⟨ty2, hty2⟩ := gk_el_ex hj
  obtain ⟨c1, g1, -, -, -, l1, f1, -⟩ := gk_at_arr hr rfl hty1
  obtain ⟨c2, g2, -, -, -, l2, f2, -⟩ := gk_at_arr hr rfl hty2
  rw [he] at g1
  cases g1.symm.trans g2
  exact ⟨l1.symm.trans l2, fun k a b => Option.some.inj ((f1 k a).symm.trans (f2 k b))⟩
/-- the tag behind a length and of a read -/
theorem gk_S1_eq_same {D : va_G} {ad : Nat → Nat} {B : Nat} {h : gk_H} {s : State} {H : Heap} (hr : gk_R D ad B h s H) {b1 b2 : Option Nat} (he : b1.map ad = b2.map ad) {r : Int32} {h' : gk_H} (hx : f_S1_equals b1 b2 h = some (r, h')) : (r, h') = (1, h) := by
  unfold f_S1_equals at hx
  obtain ⟨n1, e1, hx⟩ := Option.bind_eq_some_iff.mp hx
  obtain ⟨n2, e2, hx⟩ := Option.bind_eq_some_iff.mp hx
  cases b1 with
  | none => cases e1
  | some i => cases b2 with
    | none => cases e2
    | some j =>
      have hij : ad i = ad j := Option.some.inj he
      unfold gk_len at e1 e2
      by_cases t1 : 1 ≤ (h.2.2 i).1 ∧ (h.2.2 i).1 ≤ 7
      · by_cases t2 : 1 ≤ (h.2.2 j).1 ∧ (h.2.2 j).1 ≤ 7
        · simp only [if_pos t1, if_pos t2] at e1 e2
          cases e1
          cases e2
          obtain ⟨l, f⟩ := gk_same_len hr hij t1 t2
          rw [if_pos l] at hx
          refine gk_S1_same (fun k v1 v2 k1 k2 g1 g2 => ?_) gk_F 0 r h' hx
          have := f k k1 k2
          rw [gk_asI_eq g1, gk_asI_eq g2] at this
          exact Value.int.inj this
        · simp only [if_neg t2] at e2
          cases e2
      · simp only [if_neg t1] at e1
        cases e1
theorem gk_St_b55 {r : Int32} {h h' : gk_H} (hx : f_St_equals_b55 1 h = some (r, h')) : (r, h') = (1, h) := by
  unfold f_St_equals_b55 at hx
  rw [if_pos (by decide)] at hx
  exact (Option.some.inj hx).symm
theorem gk_St_b36 {D : va_G} {ad : Nat → Nat} {B : Nat} {h : gk_H} {s : State} {H : Heap} (hr : gk_R D ad B h s H) {i j : Nat} (he : ad i = ad j) {r : Int32} {h' : gk_H} (hx : f_St_equals_b36 (some i) (some j) h = some (r, h')) : (r, h') = (1, h) := by
  unfold f_St_equals_b36 at hx
  obtain ⟨x1, e1, hx⟩ := Option.bind_eq_some_iff.mp hx
  obtain ⟨x2, e2, hx⟩ := Option.bind_eq_some_iff.mp hx
  obtain ⟨v1, e1, g1⟩ := Option.bind_eq_some_iff.mp e1
  obtain ⟨v2, e2, g2⟩ := Option.bind_eq_some_iff.mp e2
  obtain ⟨t1, e1⟩ := gk_get_eq e1
  obtain ⟨t2, e2⟩ := gk_get_eq e2
  have hv := gk_same_fld hr he t1 t2 (k := 0) (by decide)
  rw [e1, e2, gk_asR_eq g1, gk_asR_eq g2, gk_v_ref, gk_v_ref] at hv
  have hm : x1.map ad = x2.map ad := by
    cases x1 <;> cases x2 <;> simp_all [va_rf]
  unfold gk_ca at hx
  obtain ⟨⟨x3, h1⟩, e3, hx⟩ := Option.bind_eq_some_iff.mp hx
  have e4 := gk_S1_eq_same hr hm e3
  cases e4
  simp only [if_neg (by decide : ¬ (1 : Int32) = 0)] at hx
  exact gk_St_b55 hx
theorem gk_St_same {a b : Option Nat} {h : gk_H} {r : Int32} {h' : gk_H} (hx : f_St_equals a b h = some (r, h')) {D : va_G} {ad : Nat → Nat} {B : Nat} {s : State} {H : Heap} (hr : gk_R D ad B h s H) (he : a.map ad = b.map ad) : (r, h') = (1, h) := by
  unfold f_St_equals at hx
  cases a with
  | none => cases hx
  | some i => cases b with
    | none => cases he
    | some j =>
      have hij : ad i = ad j := Option.some.inj he
      simp only [Option.bind_some] at hx
      obtain ⟨x1, e1, hx⟩ := Option.bind_eq_some_iff.mp hx
      unfold gk_iso at e1
      by_cases tj : (h.2.2 j).1 = 10 + 0
      · simp only [if_pos tj] at e1
        cases e1
        rw [if_neg (by decide)] at hx
        obtain ⟨_, -, hx⟩ := Option.bind_eq_some_iff.mp hx
        obtain ⟨x2, -, hx⟩ := Option.bind_eq_some_iff.mp hx
        by_cases h2 : x2 = 0
        · rw [if_pos h2] at hx
          exact gk_St_b36 hr hij hx
        · rw [if_neg h2] at hx
          obtain ⟨x3, e3, hx⟩ := Option.bind_eq_some_iff.mp hx
          obtain ⟨x4, e4, hx⟩ := Option.bind_eq_some_iff.mp hx
          obtain ⟨v1, e1, g1⟩ := Option.bind_eq_some_iff.mp e3
          obtain ⟨v2, e2, g2⟩ := Option.bind_eq_some_iff.mp e4
          obtain ⟨t1, e1⟩ := gk_get_eq e1
          obtain ⟨t2, e2⟩ := gk_get_eq e2
          have hv := gk_same_fld hr hij t1 t2 (k := 1) (by decide)
          rw [e1, e2, gk_asI_eq g1, gk_asI_eq g2] at hv
          have h34 : x3 = x4 := Value.int.inj hv
          rw [if_pos h34] at hx
          exact gk_St_b36 hr hij hx
      · simp only [if_neg tj] at e1
        cases e1
