/-! THE LAW'S START: the texts by their constants -/
theorem gk_ref_ex {args : Array Value} {s : State} {own tx : String} {k : Nat} (h : (Cond.stringRef own k tx).before args s = true) : ∃ a, vk_R own k tx a s ∧ (Term.string own k).eval args s none [] s = some (.ref a) := by
  cases hc : s.vm.findClass own with
  | none =>
    exfalso
    simp only [Cond.before, Cond.holds, Cond.value, hc, Option.map_none] at h
    simp at h
  | some cur =>
    obtain ⟨_, _, _, a, _, _, _, _, _, he⟩ := Cond.stringRef_spec (args := args) (first := s) (o := none) (s := s) (idx := []) hc h
    exact ⟨a, vk_R.of h he, he⟩
theorem gk_ms_at {args : Array Value} {s : State} (hts : ∀ w ∈ lw_tbl, w.before args s = true) : ∀ r ∈ gk_ms, ∃ a, vk_R r.1 r.2.1 r.2.2 a s := by
  have c1 : ∀ r ∈ gk_ms, Cond.stringRef r.1 r.2.1 r.2.2 ∈ tables_1 := by decide +kernel
  intro r hr
  obtain ⟨a, ha, -⟩ := gk_ref_ex (hts _ (List.mem_append_right _ (c1 r hr)))
  exact ⟨a, ha⟩
theorem gk_sr_at {args : Array Value} {s : State} (hts : ∀ w ∈ lw_tbl, w.before args s = true) : ∀ r ∈ gk_sr, ∃ a, vk_R r.1 r.2.1 r.2.2.1 a s ∧ (Term.string r.1 r.2.1).eval args s none [] s = some (.ref a) := by
  have c1 : ∀ r ∈ gk_sr, Cond.stringRef r.1 r.2.1 r.2.2.1 ∈ tables_1 := by decide +kernel
  intro r hr
  exact gk_ref_ex (hts _ (List.mem_append_right _ (c1 r hr)))
