/-! THE LAW'S START: the words -/
/-- a private method of a superclass is the one that is selected -/
theorem gk_sel_priv {C : String} {y z : MethodName} {s : State} {args : Array Value} (hyz : y.cls = z.cls) (hy : y.cls ≠ "java/lang/invoke/MethodHandle" ∧ y.cls ≠ "java/lang/invoke/VarHandle")
    (hs : (Cond.selects C z z).before args s = true) (hpriv : (Cond.privateMethod y).before args s = true) (hinst : (Cond.instanceMethod y).before args s = true) : (Cond.selects C y y).before args s = true := by
  obtain ⟨c, r, m, hc, -, hn, -, k, hk, hni⟩ := Cond.selects_spec (args := args) (first := s) (o := none) (s := s) (idx := []) hs
  obtain ⟨mk, methM, hnamed, hmethM, -, -⟩ := Cond.instanceMethod_spec hinst
  have hfound : s.methodFound? y.cls y.name y.desc = some mk := State.methodFound?_of_named hnamed hy
  have hcls : mk.cls = m.cls := Option.some.inj ((findClass_of_methodNamed hnamed).symm.trans (by rw [hyz]; exact findClass_of_methodNamed hn))
  have hsel : selectMethod {} s.vm c mk = .method mk := selectMethod_private hmethM (Cond.privateMethod_at hpriv mk methM hnamed hmethM)
  simp only [Cond.before, Cond.holds, Cond.value, hc, hfound, hnamed, hsel, hcls, hk]
  simp; exact hni
def gk_xz : MethodName := ⟨"java/lang/AbstractStringBuilder", "isLatin1", "()Z"⟩
theorem gk_T_at {args : Array Value} {s : State} (hts : ∀ w ∈ lw_tbl, w.before args s = true) : ∀ w ∈ gk_T, w.before args s = true := by
  intro w hw
  have h1 : w ∈ gk_tb := (List.mem_filter.mp hw).1
  rcases List.mem_append.mp h1 with h2 | h2
  · obtain ⟨y, hy, rfl⟩ := List.mem_map.mp h2
    have h3 : y.cls = gk_xz.cls ∧ (y.cls ≠ "java/lang/invoke/MethodHandle" ∧ y.cls ≠ "java/lang/invoke/VarHandle") ∧ Cond.privateMethod y ∈ tables_1 ∧ Cond.instanceMethod y ∈ tables_1 := by
      have : ∀ y ∈ gk_xp, y.cls = gk_xz.cls ∧ (y.cls ≠ "java/lang/invoke/MethodHandle" ∧ y.cls ≠ "java/lang/invoke/VarHandle") ∧ Cond.privateMethod y ∈ tables_1 ∧ Cond.instanceMethod y ∈ tables_1 := by decide +kernel
      exact this y hy
    obtain ⟨a1, a2, a3, a4⟩ := h3
    have h4 : Cond.selects "java/lang/StringBuilder" gk_xz gk_xz ∈ tables_1 := by decide +kernel
    have in_t : ∀ u, u ∈ tables_1 → u ∈ lw_tbl := fun u hu => List.mem_append_right _ hu
    exact gk_sel_priv a1 a2 (hts _ (in_t _ h4)) (hts _ (in_t _ a3)) (hts _ (in_t _ a4))
  · exact hts w h2
theorem gk_N_tabs {args : Array Value} {s : State} (hts : ∀ w ∈ lw_tbl, w.before args s = true) (hgv : (Jvm.Cond.and given_1 narrow_1).before args s = true) :
    ((∀ q ∈ gk_exC, va_Nw (.castable q.1 q.2) s) ∧ ∀ q ∈ gk_exN, va_Nc q.1 q.2 s) ∧ (∀ q ∈ gk_exD, va_Nw (.declares q) s) ∧ (∀ q ∈ gk_exM, va_Nw (.methodLinkNest q.1 q.2.1 q.2.2.1 q.2.2.2) s) ∧ va_AO "ValueAlgebra$Value" s := by
  have in_t : ∀ u, u ∈ tables_1 → u.before args s = true := fun u hu => hts _ (List.mem_append_right _ hu)
  have hs := flat_of_before _ hgv
  have c1 : ∀ q ∈ gk_exC, Cond.castable q.1 q.2 ∈ tables_1 := by decide +kernel
  have c2 : ∀ q ∈ gk_exD, Cond.declares q ∈ tables_1 := by decide +kernel
  have c3 : ∀ q ∈ gk_exM, Cond.methodLinkNest q.1 q.2.1 q.2.2.1 q.2.2.2 ∈ tables_1 := by decide +kernel
  have c4 : Cond.arrayOver (.object "ValueAlgebra$Value") ∈ tables_1 := by decide +kernel
  refine ⟨⟨fun q hq => va_Nw.of rfl (in_t _ (c1 q hq)), fun q hq => ?_⟩, fun q hq => va_Nw.of rfl (in_t _ (c2 q hq)), fun q hq => va_Nw.of rfl (in_t _ (c3 q hq)), va_AO.of (in_t _ c4)⟩
  simp only [gk_exN, List.mem_cons, List.not_mem_nil, or_false] at hq
  rcases hq with rfl | rfl | rfl | rfl | rfl | rfl
  · exact va_Nc.of (hs _ (by decide +kernel))
  · exact va_Nc.of (hs _ (by decide +kernel))
  · exact va_Nc.of (hs _ (by decide +kernel))
  · exact va_Nc.of (hs _ (by decide +kernel))
  · exact va_Nc.of (hs _ (by decide +kernel))
  · exact va_Nc.of (hs _ (by decide +kernel))
