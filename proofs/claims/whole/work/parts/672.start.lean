/-! THE LAW'S END: from the functions to the claim's own end -/
theorem gk_forget {s t : State} {L : List Loc} {k n : Nat} (h : s.sameButNew t L k n) (hL : ∀ z ∈ L, s.heap.size ≤ z.base) : s.sameButNew t [] k n := by
  obtain ⟨h1, h2, h3, h4, h5, h6⟩ := h
  refine ⟨h1, h2, h3, h4, h5, fun a c hc => ?_⟩
  obtain ⟨c', q1, q2, q3, q4⟩ := h6 a c hc
  refine ⟨c', q1, q2, q3, fun i _ => q4 i fun hz => ?_⟩
  have h7 : s.heap.size ≤ a := hL _ hz
  exact absurd (Array.getElem?_eq_some_iff.mp hc).1 (Nat.not_lt.mpr h7)
/-- the law's walk, where the functions say that it ends with true within the room -/
theorem gk_law {p : Program} {l : Launch} {e : Env} {s : State} {m : MethodId} {below : List Frame} {meth : Method} {c : Code} {b : Addr} {D : va_G} {ad : Nat → Nat} {h h' : gk_H} (C : gk_Cx p l room_1 s m #[Value.ref b] meth c y_L_law b_L_law 9 (some .boolean) [] 13)
    (hR : gk_R D ad s.heap.size h s s.heap) (hN : gk_N ad s) (hb : ad 14 = b) (hf : f_L_law (some 14) h = some (1, h')) (hc : h'.1 ≤ h.1 + 601024) (hs : h'.2.1 ≤ h.2.1 + 7293034) :
    W p l e room_1 s m #[Value.ref b] below meth c s.heap [] 0 0 (fun t => ∃ o, t.status = .running ∧ Ended t below o ∧ o = .returned (some (.int 1)) ∧ Framed s o t [] 601024 7293034) (entryFrame m ([Value.ref b] : List Value).toArray 9) := by
  obtain ⟨g1, g2, g3⟩ := w_L_law 0 (some 14) h 1 h' hf
  have h14 : 14 < h.1 := Nat.lt_of_lt_of_le (by decide) hR.2.2.2.2.2.2.1
  have k := g3 p l e room_1 s m #[Value.ref b] below meth c s.heap [] 0 0 (entryFrame m ([Value.ref b] : List Value).toArray 9).locals D ad s.heap.size h.1 h.2.1 (h'.1 - h.1) (h'.2.1 - h.2.1) (gk_Qc D ad s.heap.size h.1 (some (.int 1)) h') (fun _ _ _ => False) C
    ⟨hR, hN, va_S.rf, (by
      have q := lv_entry (n := 9) ([Value.ref b] : List Value) (Nat.le_of_ble_eq_true rfl)
      rw [show ([(0, va_rf (some 14))] : List (Nat × Value)).map (fun q => (q.1, gk_v ad q.2)) = lv_args 0 [Value.ref b] from by rw [← hb]; rfl]
      exact q), fun q hq => by rw [List.mem_singleton.mp hq]; exact h14, (fun v hv => nomatch hv), Nat.zero_add _, Nat.zero_add _, Nat.le_refl _⟩
    (by show h'.1 ≤ 601024 + h.1; omega) (by show h'.2.1 ≤ 7293034 + h.2.1; omega) (Nat.sub_add_cancel g1) (Nat.sub_add_cancel g2) (fun ad' t hA hR hvm hF hok' => ⟨ad', hA, hR, rfl, hok', hF⟩)
  rw [lg_entry_eq]
  intro T hT X
  obtain ⟨t, a1, o, b1, b2, b3⟩ := k T hT X
  refine ⟨t, a1, o, b1, b2, ?_⟩
  rcases b3 with ⟨⟨ad', -, -, ho, -, -⟩, Lz, hfr, hfree⟩ | ⟨q, -, E, ce, Lz, b4, -⟩
  · refine ⟨ho, ?_⟩
    obtain ⟨f1, f2, f3⟩ := hfr
    exact ⟨f1, f2, gk_forget (f3.mono (by omega) (by omega)) hfree⟩
  · exact b4.elim
