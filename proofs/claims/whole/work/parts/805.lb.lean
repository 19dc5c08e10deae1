/-! THE PURE PART: a method's own builder: made since h0, of at most m characters ever -/
def gp_lb (h0 h : gk_H) (s m c0 s0 : Nat) (l : List Nat) : Prop := ∃ a cap, gp_sb h s a cap l ∧ h0.1 ≤ s ∧ h0.1 ≤ a ∧ 44 ≤ h0.1 ∧ gp_st h ∧ cap ≤ 16 + 2 * m ∧ h0.1 ≤ h.1 ∧ 18 * h.1 ≤ 18 * (h0.1 + c0) + cap ∧ h.2.1 ≤ h0.2.1 + s0 + 2 * cap ∧ ∀ i, i < h0.1 → h.2.2 i = h0.2.2 i
section GPL
variable {h0 h : gk_H} {S : gv_S} {s m c0 s0 : Nat} {l : List Nat}
theorem gp_lb.st (q : gp_lb h0 h s m c0 s0 l) : gp_st h := by
  obtain ⟨a, cap, q1, q2, q3, q4, q5, q6⟩ := q
  exact q5
theorem gp_lb.ext (q : gp_lb h0 h s m c0 s0 l) : gp_ext (c0 + (16 + 2 * m) / 18) (s0 + 2 * (16 + 2 * m)) h0 h := by
  obtain ⟨a, cap, q1, q2, q3, q4, q5, q6, q7, q8, q9, q10⟩ := q
  exact ⟨q7, by omega, by omega, q10⟩
theorem gp_lb.str {b i : Nat} {t : List Nat} (q : gp_lb h0 h s m c0 s0 l) (ht : gp_str b h0 i t) : gp_str b h i t := ht.ext q.ext
theorem lb_new {c s1 : Nat} (h44 : 44 ≤ h0.1) (hs : gp_st h) (he : gp_ext c s1 h0 h) (m : Nat) : ∃ h', (∀ {β : Type} (K : Option Nat → gk_H → Option β), (gk_nw (gv_ov h S) 1 4 fun x1 h1 => gk_cv h1 x1 1 (f_SB_init x1 h1) fun _ h2 => K x1 h2) = K (some h.1) (gv_ov h' S)) ∧ gp_lb h0 h' h.1 m (c + 2) s1 [] := by
  obtain ⟨h', e1, e2, e3⟩ := b_new (S := S) hs
  obtain ⟨a1, a2, a3, a4⟩ := he
  obtain ⟨b1, b2, b3, b4⟩ := e3
  refine ⟨h', e1, h.1 + 1, 16, e2, by omega, by omega, h44, ?_, by omega, by omega, by omega, by omega, fun i hi => by rw [b4 i (by omega), a4 i hi]⟩
  exact hs.ext ⟨b1, b2, b3, b4⟩
theorem lb_len (q : gp_lb h0 h s m c0 s0 l) : f_SB_length (some s) (gv_ov h S) = some (gI l.length, gv_ov h S) := by
  obtain ⟨a, cap, q1, q2⟩ := q
  exact b_len q1
theorem lb_cv (q : gp_lb h0 h s m c0 s0 l) {α β : Type} (x : Option (α × gk_H)) (K : α → gk_H → Option β) : gk_cv (gv_ov h S) (some s) 1 x K = gk_ca x K := by
  obtain ⟨a, cap, q1, q2⟩ := q
  exact gp_cv q1.2.2.1 q1.2.2.2.2.2.2.1 x K
theorem lb_appC (q : gp_lb h0 h s m c0 s0 l) (c : Nat) (hc : c < 128) (hl : l.length + 1 ≤ m) (hm : m ≤ 9000) : ∃ h', f_SB_append_C (some s) (gI c) (gv_ov h S) = some (some s, gv_ov h' S) ∧ gp_lb h0 h' s m c0 s0 (l ++ [c]) := by
  obtain ⟨a, cap, q1, q2, q3, q4, q5, q6, q7, q8, q9, q10⟩ := q
  obtain ⟨h', a', cap', e1, e2, e3⟩ := b_appC (S := S) q5 q1 c hc (by omega) (by omega)
  have hst := q5.gr e3 q1.2.2.2.2.1 q1.2.2.2.2.2.1
  obtain ⟨g1, g2, g3, g4, g5, g6, g7⟩ := e3
  exact ⟨h', e1, a', cap', e2, q2, by omega, q4, hst, by omega, by omega, by omega, by omega, fun i hi => by rw [g7 i (by omega) (by omega) (by omega), q10 i hi]⟩
theorem lb_appS' {i : Nat} {t : List Nat} (q : gp_lb h0 h s m c0 s0 l) (ht : ∀ a, h0.1 ≤ a → a < h.1 → (h.2.2 s).2.2 0 = va_rf (some a) → gp_str a h i t) (hl : l.length + t.length ≤ m) (hm : m ≤ 9000) : ∃ h', f_SB_append_String (some s) (some i) (gv_ov h S) = some (some s, gv_ov h' S) ∧ gp_lb h0 h' s m c0 s0 (l ++ t) := by
  obtain ⟨a, cap, q1, q2, q3, q4, q5, q6, q7, q8, q9, q10⟩ := q
  have hta := ht a q3 q1.2.1 q1.2.2.2.2.2.2.2.1
  have his : i ≠ s := fun z => by
    have z1 := hta.2.2.1
    rw [z, q1.2.2.2.2.2.2.1] at z1
    exact absurd z1 (by decide)
  have hia : ∀ x : Nat, (h.2.2 i).2.2 0 = va_rf (some x) → x ≠ a := fun x hx => by
    obtain ⟨-, -, -, -, y, y1, -, y2, -⟩ := hta
    rw [y1] at hx
    have : y = x := by
      simp only [va_rf] at hx
      injection hx
    rw [← this]
    exact y2.2.2
  obtain ⟨h', a', cap', e1, e2, e3⟩ := b_appS (S := S) q5 q1 hta his hia (by omega) (by omega)
  have hst := q5.gr e3 q1.2.2.2.2.1 q1.2.2.2.2.2.1
  obtain ⟨g1, g2, g3, g4, g5, g6, g7⟩ := e3
  exact ⟨h', e1, a', cap', e2, q2, by omega, q4, hst, by omega, by omega, by omega, by omega, fun i hi => by rw [g7 i (by omega) (by omega) (by omega), q10 i hi]⟩
theorem lb_appS {b i : Nat} {t : List Nat} (q : gp_lb h0 h s m c0 s0 l) (ht : gp_str b h0 i t) (hl : l.length + t.length ≤ m) (hm : m ≤ 9000) : ∃ h', f_SB_append_String (some s) (some i) (gv_ov h S) = some (some s, gv_ov h' S) ∧ gp_lb h0 h' s m c0 s0 (l ++ t) :=
  lb_appS' q (fun a ha _ _ => (ht.other ha).ext q.ext) hl hm
/-- what it holds as a text -/
theorem lb_str (q : gp_lb h0 h s m c0 s0 l) (b : Nat) (hb : b < h0.1) (hl : l.length ≤ m) : ∃ r h', f_SB_toString (some s) (gv_ov h S) = some (some r, gv_ov h' S) ∧ gp_str b h' r l ∧ gp_st h' ∧ gp_ext (c0 + (16 + 2 * m) / 18 + 2) (s0 + 2 * (16 + 2 * m) + 4 + m) h0 h' := by
  have qe := q.ext
  have qs := q.st
  obtain ⟨a, cap, q1, q2, q3, q4, q5, q6, q7, q8, q9, q10⟩ := q
  obtain ⟨h', e1, e2, e3⟩ := b_str (S := S) q5 q1 b (by omega)
  exact ⟨h.1, h', e1, e2, qs.ext e3, (qe.trans e3).le (by omega) (by omega)⟩
end GPL
