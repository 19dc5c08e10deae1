/-! THE PURE PART: judgements; texts and text builders -/
/-- x ends well over some overlay, with Q -/
def gq {α : Type} (x : Option (α × gk_H)) (Q : α → gk_H → gv_S → Prop) : Prop := ∃ r h S, x = some (r, gv_ov h S) ∧ Q r h S
theorem gq_ret {α : Type} {Q : α → gk_H → gv_S → Prop} {r : α} {h : gk_H} {S : gv_S} (hq : Q r h S) : gq (some (r, gv_ov h S)) Q := ⟨r, h, S, rfl, hq⟩
theorem gq_mono {α : Type} {x : Option (α × gk_H)} {Q P : α → gk_H → gv_S → Prop} (h : gq x Q) (hQ : ∀ r h S, Q r h S → P r h S) : gq x P := by
  obtain ⟨r, h, S, e, q⟩ := h
  exact ⟨r, h, S, e, hQ _ _ _ q⟩
theorem gq_ca {α β : Type} {x : Option (α × gk_H)} {K : α → gk_H → Option (β × gk_H)} {Q : β → gk_H → gv_S → Prop} (h : gq x (fun r h S => gq (K r (gv_ov h S)) Q)) : gq (gk_ca x K) Q := by
  obtain ⟨r, h, S, e, q⟩ := h
  rw [e]
  exact q
theorem gk_ca_some {α β : Type} (r : α) (h : gk_H) (K : α → gk_H → Option β) : gk_ca (some (r, h)) K = K r h := rfl
section GPR
variable {β : Type} {h : gk_H} {S : gv_S} {i c k : Nat}
theorem gp_getI (hf : gv_fx i = false) (ht : (h.2.2 i).1 = 10 + c) {v : Int32} (hv : (h.2.2 i).2.2 k = .int v) (K : Int32 → Option β) : ((gk_get (gv_ov h S) (some i) c k).bind gk_asI).bind K = K v := by
  unfold gk_get
  simp only [gv_no hf, ht, hv, if_true]
  rfl
theorem gp_getD (hf : gv_fx i = false) (ht : (h.2.2 i).1 = 10 + c) {v : UInt64} (hv : (h.2.2 i).2.2 k = .double v) (K : UInt64 → Option β) : ((gk_get (gv_ov h S) (some i) c k).bind gk_asD).bind K = K v := by
  unfold gk_get
  simp only [gv_no hf, ht, hv, if_true]
  rfl
theorem gp_getR (hf : gv_fx i = false) (ht : (h.2.2 i).1 = 10 + c) {v : Option Nat} (hv : (h.2.2 i).2.2 k = va_rf v) (K : Option Nat → Option β) : ((gk_get (gv_ov h S) (some i) c k).bind gk_asR).bind K = K v := by
  unfold gk_get
  simp only [gv_no hf, ht, hv, if_true]
  cases v <;> rfl
theorem gp_cv (hf : gv_fx i = false) (ht : (h.2.2 i).1 = 10 + c) {α : Type} (x : Option (α × gk_H)) (K : α → gk_H → Option β) : gk_cv (gv_ov h S) (some i) c x K = gk_ca x K := by
  unfold gk_cv gk_rcv
  simp only [gv_no hf, ht, if_true]
  rfl
theorem gp_len (hf : gv_fx i = false) (ht : 1 ≤ (h.2.2 i).1 ∧ (h.2.2 i).1 ≤ 7) (K : Int32 → Option β) : (gk_len (gv_ov h S) (some i)).bind K = K (gI (h.2.2 i).2.1) := by
  unfold gk_len
  simp only [gv_no hf, ht, and_self, if_true]
  rfl
theorem gp_aldI {t n : Nat} (hf : gv_fx i = false) (ht : (h.2.2 i).1 = t) (hn : n < (h.2.2 i).2.1) (hl : (h.2.2 i).2.1 < 2147483648) {v : Int32} (hv : (h.2.2 i).2.2 n = .int v) (K : Int32 → Option β) : ((gk_ald (gv_ov h S) (some i) t (gI n)).bind gk_asI).bind K = K v := by
  unfold gk_ald
  simp only [gv_no hf, ht, gI_inb _ n hn hl, and_self, if_true, gI_nat n (Nat.lt_trans hn hl), hv]
  rfl
theorem gp_aldR {t n : Nat} (hf : gv_fx i = false) (ht : (h.2.2 i).1 = t) (hn : n < (h.2.2 i).2.1) (hl : (h.2.2 i).2.1 < 2147483648) {v : Option Nat} (hv : (h.2.2 i).2.2 n = va_rf v) (K : Option Nat → Option β) : ((gk_ald (gv_ov h S) (some i) t (gI n)).bind gk_asR).bind K = K v := by
  unfold gk_ald
  simp only [gv_no hf, ht, gI_inb _ n hn hl, and_self, if_true, gI_nat n (Nat.lt_trans hn hl), hv]
  cases v <;> rfl
theorem gp_upd (o : gk_O) (hf : gv_fx i = false) : gk_upd (gv_ov h S) i o = gv_ov (gk_upd h i o) S := by
  refine gv_ext rfl rfl fun j => ?_
  unfold gk_upd gv_ov
  simp only
  by_cases e : j = i
  · subst e
    rw [if_pos rfl, if_neg (by rw [hf]; exact Bool.false_ne_true), if_pos rfl]
  · rw [if_neg e, if_neg e]
theorem gp_set (hf : gv_fx i = false) (h16 : 16 ≤ i) (ht : (h.2.2 i).1 = 10 + c) {v : Value} (hv : gk_fit (gk_ty c k) v = true) (K : gk_H → Option β) : (gk_set (gv_ov h S) (some i) c k v).bind K = K (gv_ov (gk_upd h i (10 + c, (h.2.2 i).2.1, gk_put (h.2.2 i).2.2 k v)) S) := by
  unfold gk_set
  simp only [gv_no hf]
  rw [if_pos ⟨ht, h16, hv⟩, gp_upd _ hf, ht]
  rfl
theorem gp_ast {t n : Nat} (hf : gv_fx i = false) (h16 : 16 ≤ i) (ht : (h.2.2 i).1 = t) (hn : n < (h.2.2 i).2.1) (hl : (h.2.2 i).2.1 < 2147483648) {v : Value} (hm : gk_may (gv_ov h S) t v = true) (K : gk_H → Option β) : (gk_ast (gv_ov h S) (some i) t (gI n) v).bind K = K (gv_ov (gk_upd h i (t, (h.2.2 i).2.1, gk_put (h.2.2 i).2.2 n (narrow (gk_tyt t) v))) S) := by
  unfold gk_ast
  simp only [gv_no hf]
  rw [if_pos ⟨ht, gI_inb _ n hn hl, h16, hm⟩, gp_upd _ hf, ht, gI_nat n (Nat.lt_trans hn hl)]
  rfl
theorem gp_new (n : Nat) (o : gk_O) (h44 : 44 ≤ h.1) : gk_new (gv_ov h S) n o = gv_ov (gk_new h n o) S := by
  have hf : gv_fx h.1 = false := by
    unfold gv_fx
    simp only [Bool.and_eq_false_iff]
    refine Or.inl (Or.inl (Or.inl (Or.inl (Or.inr ?_))))
    cases e : Nat.blt h.1 44
    · rfl
    · exact absurd (Nat.le_of_ble_eq_true e) (by omega)
  refine gv_ext rfl rfl fun j => ?_
  unfold gk_new gv_ov
  simp only
  by_cases e : j = h.1
  · subst e
    rw [if_pos rfl, if_neg (by rw [hf]; exact Bool.false_ne_true), if_pos rfl]
  · rw [if_neg e, if_neg e]
theorem gp_nw {γ : Type} (n : Nat) (h44 : 44 ≤ h.1) (K : Option Nat → gk_H → γ) : gk_nw (gv_ov h S) c n K = K (some h.1) (gv_ov (gk_mkO h c n) S) := by
  unfold gk_nw gk_mkO
  rw [gp_new _ _ h44]
  rfl
theorem gp_na (t n : Nat) (h44 : 44 ≤ h.1) (hn : n ≤ 100000) (K : Option Nat → gk_H → Option β) : gk_na (gv_ov h S) t (gI n) K = K (some h.1) (gv_ov (gk_mkA h t n) S) := by
  unfold gk_na gk_mkA
  have h1 : ¬ gI n < 0 := by
    rw [gI_0, gI_lt n 0 (by omega) (by decide)]
    omega
  rw [gI_nat n (by omega), if_pos ⟨h1, hn⟩, gp_new _ _ h44]
  rfl
end GPR
theorem gv_fx_hi {i : Nat} (h : 44 ≤ i) : gv_fx i = false := by
  unfold gv_fx
  simp only [Bool.and_eq_false_iff]
  refine Or.inl (Or.inl (Or.inl (Or.inl (Or.inr ?_))))
  cases e : Nat.blt i 44
  · rfl
  · exact absurd (Nat.le_of_ble_eq_true e) (by omega)
/-- what never changes: the statics; nothing new lies in the overlay -/
def gp_st (h : gk_H) : Prop := 44 ≤ h.1 ∧ (h.2.2 0).2.2 0 = .int 1 ∧ (∃ r : Option Nat, (h.2.2 0).2.2 1 = va_rf r) ∧ (h.2.2 0).2.2 2 = .ref 1 ∧ (h.2.2 0).2.2 3 = .ref 2 ∧ (h.2.2 0).2.2 4 = .ref 3
/-- the heap has grown by at most c things and s slots, nothing old has changed -/
def gp_ext (c s : Nat) (h h' : gk_H) : Prop := h.1 ≤ h'.1 ∧ h'.1 ≤ h.1 + c ∧ h'.2.1 ≤ h.2.1 + s ∧ ∀ i, i < h.1 → h'.2.2 i = h.2.2 i
theorem gp_ext.refl (h : gk_H) : gp_ext 0 0 h h := ⟨Nat.le_refl _, Nat.le_refl _, Nat.le_refl _, fun _ _ => rfl⟩
theorem gp_ext.trans {c s c' s' : Nat} {h h' h'' : gk_H} (a : gp_ext c s h h') (b : gp_ext c' s' h' h'') : gp_ext (c + c') (s + s') h h'' := by
  obtain ⟨a1, a2, a3, a4⟩ := a
  obtain ⟨b1, b2, b3, b4⟩ := b
  exact ⟨by omega, by omega, by omega, fun i hi => by rw [b4 i (by omega), a4 i hi]⟩
theorem gp_ext.le {c s c' s' : Nat} {h h' : gk_H} (a : gp_ext c s h h') (h1 : c ≤ c') (h2 : s ≤ s') : gp_ext c' s' h h' := by
  obtain ⟨a1, a2, a3, a4⟩ := a
  exact ⟨a1, by omega, by omega, a4⟩
theorem gp_st.ext {c s : Nat} {h h' : gk_H} (a : gp_st h) (b : gp_ext c s h h') : gp_st h' := by
  obtain ⟨a1, a2, a3, a4, a5, a6⟩ := a
  obtain ⟨b1, b2, b3, b4⟩ := b
  have e := b4 0 (by omega)
  refine ⟨by omega, ?_, ?_, ?_, ?_, ?_⟩ <;> rw [e] <;> assumption
/-- what may not be written any more: outside the overlay, not the text under way nor its array b -/
def gp_im (b i : Nat) : Prop := gv_fx i = false ∧ i ≠ 18 ∧ i ≠ b
/-- what may not be written is as it was -/
def gp_keep (b : Nat) (h h' : gk_H) : Prop := h.1 ≤ h'.1 ∧ ∀ i, i < h.1 → i ≠ 18 → i ≠ b → h'.2.2 i = h.2.2 i
theorem gp_keep.refl (b : Nat) (h : gk_H) : gp_keep b h h := ⟨Nat.le_refl _, fun _ _ _ _ => rfl⟩
theorem gp_keep.trans {b : Nat} {h h' h'' : gk_H} (a : gp_keep b h h') (c : gp_keep b h' h'') : gp_keep b h h'' := by
  obtain ⟨a1, a2⟩ := a
  obtain ⟨c1, c2⟩ := c
  exact ⟨by omega, fun i hi h1 h2 => by rw [c2 i (by omega) h1 h2, a2 i hi h1 h2]⟩
theorem gp_ext.keep {c s : Nat} {h h' : gk_H} (b : Nat) (a : gp_ext c s h h') : gp_keep b h h' := ⟨a.1, fun i hi _ _ => a.2.2.2 i hi⟩
theorem gp_im_hi {b i : Nat} (h : 44 ≤ i) (hb : i ≠ b) : gp_im b i := ⟨gv_fx_hi h, by omega, hb⟩
/-- an array of bytes that holds the characters l -/
def gp_byt (h : gk_H) (a : Nat) (l : List Nat) : Prop := (h.2.2 a).1 = 3 ∧ (h.2.2 a).2.1 = l.length ∧ l.length ≤ 100000 ∧ ∀ k, k < l.length → (h.2.2 a).2.2 k = .int (gI (l.getD k 0)) ∧ l.getD k 0 < 128
/-- the String of number i holds the characters l -/
def gp_str (b : Nat) (h : gk_H) (i : Nat) (l : List Nat) : Prop :=
  i < h.1 ∧ gp_im b i ∧ (h.2.2 i).1 = 10 ∧ (h.2.2 i).2.2 1 = .int 0 ∧ ∃ a : Nat, (h.2.2 i).2.2 0 = va_rf (some a) ∧ a < h.1 ∧ gp_im b a ∧ gp_byt h a l
theorem gp_str.keep {b : Nat} {h h' : gk_H} {i : Nat} {l : List Nat} (a : gp_str b h i l) (hk : gp_keep b h h') : gp_str b h' i l := by
  obtain ⟨a1, a2, a3, a4, q, a5, a6, a7, a8⟩ := a
  have e1 := hk.2 i a1 a2.2.1 a2.2.2
  have e2 := hk.2 q a6 a7.2.1 a7.2.2
  have h1 := hk.1
  unfold gp_str gp_byt
  rw [e1]
  refine ⟨by omega, a2, a3, a4, q, a5, by omega, a7, ?_⟩
  rw [e2]
  exact a8
theorem gp_str.ext {b c s : Nat} {h h' : gk_H} {i : Nat} {l : List Nat} (a : gp_str b h i l) (hk : gp_ext c s h h') : gp_str b h' i l := a.keep (hk.keep b)
theorem gp_str.other {b b' : Nat} {h : gk_H} {i : Nat} {l : List Nat} (a : gp_str b h i l) (hb : h.1 ≤ b') : gp_str b' h i l := by
  obtain ⟨a1, a2, a3, a4, q, a5, a6, a7, a8⟩ := a
  exact ⟨a1, ⟨a2.1, a2.2.1, by omega⟩, a3, a4, q, a5, a6, ⟨a7.1, a7.2.1, by omega⟩, a8⟩
theorem gv_gs (h : gk_H) (S : gv_S) (k : Nat) : gk_gs (gv_ov h S) k = (h.2.2 0).2.2 k := rfl
theorem gv_cs {h : gk_H} {S : gv_S} (hs : gp_st h) {β : Type} (K : Int32 → Option β) : (gk_asI (gk_gs (gv_ov h S) 0)).bind K = K 1 := by
  rw [gv_gs, hs.2.1]
  rfl
theorem nb0 {β : Type} (x y : β) : (if narrow .boolean (.int (0 : Int32)) = .int (0 : Int32) then x else y) = x := if_pos rfl
theorem nb1 {β : Type} (x y : β) : (if narrow .boolean (.int (1 : Int32)) = .int (1 : Int32) then x else y) = x := if_pos rfl
theorem gI_shr0 (x : Int32) : x >>> ((0 : Int32) &&& 31) = x := by
  rw [show ((0 : Int32) &&& 31) = 0 from rfl]
  exact Int32.shiftRight_zero
theorem gI_shl0 (x : Int32) : x <<< ((0 : Int32) &&& 31) = x := by
  rw [show ((0 : Int32) &&& 31) = 0 from rfl]
  exact Int32.shiftLeft_zero
section GPS
variable {b i : Nat} {h : gk_H} {S : gv_S} {l : List Nat}
theorem s_coder (hs : gp_st h) (a : gp_str b h i l) : f_St_coder (some i) (gv_ov h S) = some (0, gv_ov h S) := by
  obtain ⟨-, hi, ht, hc, -⟩ := a
  unfold f_St_coder f_St_coder_b14
  rw [gv_cs hs, if_neg (by decide), gp_getI hi.1 ht hc]
  rfl
theorem s_lat (hs : gp_st h) (a : gp_str b h i l) : f_St_isLatin1 (some i) (gv_ov h S) = some (1, gv_ov h S) := by
  obtain ⟨-, hi, ht, hc, -⟩ := a
  unfold f_St_isLatin1 f_St_isLatin1_b18
  rw [gv_cs hs, if_neg (by decide), gp_getI hi.1 ht hc]
  rfl
theorem s_len (hs : gp_st h) (a : gp_str b h i l) : f_St_length (some i) (gv_ov h S) = some (gI l.length, gv_ov h S) := by
  have hc := s_coder (S := S) hs a
  obtain ⟨-, hi, ht, -, q, h0, -, hq, g1, g2, -⟩ := a
  unfold f_St_length
  rw [gp_getR hi.1 ht h0, gp_len hq.1 (by rw [g1]; decide), gp_cv hi.1 ht, hc, gk_ca_some, g2, gI_shr0]
theorem s_emp (a : gp_str b h i l) : f_St_isEmpty (some i) (gv_ov h S) = some (if l = [] then 1 else 0, gv_ov h S) := by
  obtain ⟨-, hi, ht, -, q, h0, -, hq, g1, g2, g3, -⟩ := a
  unfold f_St_isEmpty f_St_isEmpty_b13
  rw [gp_getR hi.1 ht h0, gp_len hq.1 (by rw [g1]; decide), g2]
  by_cases e : l = []
  · rw [if_pos e, e]
    rfl
  · have : ¬ (gI l.length = 0) := by
      rw [gI_ne0 _ (by omega)]
      exact fun q => e (List.length_eq_zero_iff.mp q)
    rw [if_neg e, if_neg this]
    rfl
theorem gI_char {c : Nat} (hc : c < 128) : UInt32.toInt32 (Int32.toUInt32 (gI c &&& (255 : Int32)) % 65536) = gI c := by
  have : ∀ c : Fin 128, UInt32.toInt32 (Int32.toUInt32 (gI c.val &&& (255 : Int32)) % 65536) = gI c.val := by decide +kernel
  exact this ⟨c, hc⟩
theorem gI_nchar {c : Nat} (hc : c < 128) : narrow .char (.int (gI c)) = .int (gI c) := by
  have : ∀ c : Fin 128, (gI c.val).toUInt32.toUInt16.toUInt32.toInt32 = gI c.val := by decide +kernel
  show Value.int _ = _
  rw [this ⟨c, hc⟩]
theorem gI_nbyte {c : Nat} (hc : c < 128) : narrow .byte (.int (gI c)) = .int (gI c) := by
  have : ∀ c : Fin 128, (gI c.val).toInt8.toInt32 = gI c.val := by decide +kernel
  show Value.int _ = _
  rw [this ⟨c, hc⟩]
theorem gI_bb {c : Nat} (hc : c < 128) : gI_b (gI c) = gI c := by
  have : ∀ c : Fin 128, (gI c.val).toInt8.toInt32 = gI c.val := by decide +kernel
  exact this ⟨c, hc⟩
theorem gI_cc {c : Nat} (hc : c < 128) : gI_c (gI c) = gI c := by
  have : ∀ c : Fin 128, (gI c.val).toUInt32.toUInt16.toUInt32.toInt32 = gI c.val := by decide +kernel
  exact this ⟨c, hc⟩
theorem s_chk {x n : Nat} (hs : gp_st h) (hx : x < n) (hn : n < 2147483648) : f_St_checkIndex (gI x) (gI n) (gv_ov h S) = some ((), gv_ov h S) := by
  unfold f_St_checkIndex f_Pr_checkIndex
  obtain ⟨r, hr⟩ := hs.2.2.1
  rw [gv_gs, hr, show gk_asR (va_rf r) = some r from by cases r <;> rfl]
  simp only [Option.bind_some]
  rw [if_neg (by rw [gI_0, gI_lt x 0 (by omega) (by decide)]; omega), if_pos (by rw [gI_lt x n (by omega) hn]; exact hx)]
  rfl
theorem s_charAt {k : Nat} (hs : gp_st h) (a : gp_str b h i l) (hk : k < l.length) : f_St_charAt (some i) (gI k) (gv_ov h S) = some (gI (l.getD k 0), gv_ov h S) := by
  have hc := s_lat (S := S) hs a
  obtain ⟨-, hi, ht, -, q, h0, -, hq, g1, g2, g3, g4⟩ := a
  unfold f_St_charAt f_S1_charAt
  rw [gp_cv hi.1 ht, hc, gk_ca_some, if_neg (by decide), gp_getR hi.1 ht h0, gp_len hq.1 (by rw [g1]; decide), g2, s_chk hs hk (by omega), gk_ca_some, gp_aldI hq.1 g1 (by omega) (by omega) (g4 k hk).1, gI_char (g4 k hk).2, if_pos (gI_nchar (g4 k hk).2), gk_ca_some, if_pos (gI_nchar (g4 k hk).2)]
end GPS
