/-! THE LAW'S START: the classes -/
def gk_ins : List (String × Nat) := [("java/lang/String", 4), ("java/lang/StringBuilder", 4), ("ValueAlgebra$Value", 7), ("ValueAlgebra$Likeness", 4), ("ValueAlgebra$Arguments", 9), ("ValueAlgebra", 4), ("ValueAlgebra$Criterion", 3), ("ValueAlgebraModel", 25)]
theorem gk_ins_ok : ∀ q ∈ gk_ins, Cond.instantiable q.1 q.2 ∈ gk_T := by decide +kernel
theorem gk_ins_all {r : vw_C} (hr : r ∈ gk_cl) : ∃ n, Cond.instantiable r.1 n ∈ gk_T := by
  have k : ∃ n, (r.1, n) ∈ gk_ins := by
    simp only [gk_cl, List.mem_cons, List.not_mem_nil, or_false] at hr
    rcases hr with rfl | rfl | rfl | rfl | rfl | rfl | rfl | rfl
    · exact ⟨4, by decide⟩
    · exact ⟨4, by decide⟩
    · exact ⟨7, by decide⟩
    · exact ⟨4, by decide⟩
    · exact ⟨9, by decide⟩
    · exact ⟨4, by decide⟩
    · exact ⟨3, by decide⟩
    · exact ⟨25, by decide⟩
  obtain ⟨n, hn⟩ := k
  exact ⟨n, gk_ins_ok _ hn⟩
theorem gk_K_at {args : Array Value} {s : State} (hts : ∀ w ∈ gk_T, w.before args s = true) : ∃ D : va_G, gk_K D s := by
  have h1 : ∀ c : Nat, ∃ p : ClassId × (Nat → Nat), ∀ r : vw_C, gk_cl[c]? = some r → u_Kn s r.1 r.2.1 r.2.2 p.1 p.2 := by
    intro c
    cases h : gk_cl[c]? with
    | none => exact ⟨((0 : Nat), fun _ => 0), fun r hr => nomatch hr⟩
    | some r =>
      obtain ⟨n, hn⟩ := gk_ins_all (List.mem_of_getElem? h)
      obtain ⟨cC, iS, hk⟩ := u_known hts (gk_laysAll h) (hts _ hn)
      refine ⟨(cC, iS), fun r' hr => ?_⟩
      cases hr
      exact hk
  obtain ⟨g, hg⟩ := Classical.axiomOfChoice h1
  exact ⟨(fun c => (g c).1, fun c => (g c).2), fun c q hq => hg c q hq⟩
