/-! ROW: System.arraycopy over bytes -/
def gk_cpy (f g : Nat → Value) (sp dp n : Nat) : Nat → Value := fun k => if dp ≤ k ∧ k < dp + n then f (sp + (k - dp)) else g k
def gk_byt (f : Nat → Value) (sp n : Nat) : Bool := (List.range n).all fun i => match f (sp + i) with
  | .int v => fits .byte (.int v)
  | _ => false
def gk_acp (h : gk_H) (a : Option Nat) (sp : Int32) (b : Option Nat) (dp n : Int32) : Option gk_H := match a, b with
  | some i, some j => if (h.2.2 i).1 = 3 ∧ (h.2.2 j).1 = 3 ∧ (¬ sp < 0 ∧ ¬ dp < 0 ∧ ¬ n < 0) ∧ sp.toNatClampNeg + n.toNatClampNeg ≤ (h.2.2 i).2.1 ∧ dp.toNatClampNeg + n.toNatClampNeg ≤ (h.2.2 j).2.1 ∧ gk_c ≤ j ∧ (h.2.2 i).2.1 < 2 ^ 31 ∧ gk_byt (h.2.2 i).2.2 sp.toNatClampNeg n.toNatClampNeg = true then some (gk_upd h j ((h.2.2 j).1, (h.2.2 j).2.1, gk_cpy (h.2.2 i).2.2 (h.2.2 j).2.2 sp.toNatClampNeg dp.toNatClampNeg n.toNatClampNeg)) else none
  | _, _ => none
section GKC
variable {ρ : Type} {w : ρ → gk_U} {d : Nat} {y : MethodName} {cc : ByteArray} {nL : Nat} {ret : Option FieldType} {et : List ExceptionTableEntry} {x : Option (ρ × gk_H)} {pc : Nat} {L : List (Nat × Value)} {st sk : List Value} {h : gk_H}
theorem gk_arraycopy {a b : Option Nat} {sp dp n : Int32} {ix : Nat} {f : gk_H → Option (ρ × gk_H)} (hd : decode cc pc = .ok (.invokestatic ix, 3)) (hl : Cond.methodLink y.cls ix arraycopyName ∈ gk_T) (h8 : (st.map fun v => v.category).sum ≤ 8)
    (kk : ∀ h1, gk_P w (d + 1) y cc nL ret et (f h1) (pc + 3) L st h1) : gk_P w (d + 1) y cc nL ret et ((gk_acp h a sp b dp n).bind f) pc L (.int n :: .int dp :: va_rf b :: .int sp :: va_rf a :: st) h := by
  intro rr h' hx
  cases a with
  | none => cases hx
  | some i =>
    cases b with
    | none => cases hx
    | some j =>
      unfold gk_acp at hx
      by_cases hc : (h.2.2 i).1 = 3 ∧ (h.2.2 j).1 = 3 ∧ (¬ sp < 0 ∧ ¬ dp < 0 ∧ ¬ n < 0) ∧ sp.toNatClampNeg + n.toNatClampNeg ≤ (h.2.2 i).2.1 ∧ dp.toNatClampNeg + n.toNatClampNeg ≤ (h.2.2 j).2.1 ∧ gk_c ≤ j ∧ (h.2.2 i).2.1 < 2 ^ 31 ∧ gk_byt (h.2.2 i).2.2 sp.toNatClampNeg n.toNatClampNeg = true
      · simp only [if_pos hc, Option.bind_some] at hx
        obtain ⟨k1, k2, k3⟩ := kk _ rr h' hx
        obtain ⟨ti, tj, ⟨p1, p2, p3⟩, b1, b2, hj, -, hby⟩ := hc
        refine ⟨k1, k2, fun p l e R s m args below meth cd H locs cells slots ls D ad B n0 u0 mc ms Qc XC C S r1 r2 r3 r4 E => ?_⟩
        obtain ⟨s1, s2, s3, s4, s5, s6, s7, s8, s9⟩ := S
        have hts := C.2.2.2.2.2.1
        obtain ⟨cs, f1, f2, f3, f4, f5, f6, -⟩ := gk_at_arr s1 ti (ty := .byte) rfl
        obtain ⟨cdd, g1, ⟨g2, g3, g4, g5, g6, g7⟩, gx⟩ := gk_at_siz s1 tj (ty := .byte) rfl
        obtain ⟨fs, kF, fk, cF, fkk⟩ := f2
        obtain ⟨gs, kG, gk, cG, gkk⟩ := g2
        have hlj : gk_lv (h.2.2 j).1 = true := by rw [tj]; rfl
        have hB : B ≤ ad j := (s1.2.2.2.1 j hlj).mpr hj
        have nn : ∀ z : Int32, ¬ z < 0 → z.toInt = (z.toNatClampNeg : Int) := by
          intro z hz
          have hz0 : (0 : Int) ≤ z.toInt := by
            have := Int32.not_lt.mp hz
            simpa using Int32.le_iff_toInt_le.mp this
          show z.toInt = ((z.toInt.toNat : Nat) : Int)
          omega
        have hst : ∀ k, k < n.toNatClampNeg → cs.slots.getD (sp.toNatClampNeg + k) .null = gk_v ad ((h.2.2 i).2.2 (sp.toNatClampNeg + k)) := by
          intro k hk
          rw [Array.getD_eq_getD_getElem?, f6 _ (by omega)]
          rfl
        intro T hT X
        obtain ⟨vm', X', step⟩ := X.arraycopy C.1 C.2.2.2.2.1 (hts _ hl) (hts _ (gk_T_mem (by decide +kernel) (by decide +kernel))) (hts _ (gk_T_mem (by decide +kernel) (by decide +kernel))) (hts _ (gk_T_mem (by decide +kernel) (by decide +kernel))) (src := ad i) (dst := ad j) (cs := cs) (cd := cdd) (srcPos := sp) (destPos := dp) (n := n) (by rw [hT]; exact f1) (by rw [hT]; exact g1)
          fs gs f3 g3 fk gk fkk gkk (by rfl) p1 p2 p3
          (by rw [nn sp p1, nn n p3]; omega)
          (by rw [nn dp p2, nn n p3]; omega)
          (fun vm₁ _ k hk => by
            rw [hst k hk]
            have h1 := List.all_eq_true.mp hby k (List.mem_range.mpr hk)
            split at h1
            · rename_i v hv
              rw [hv]
              exact ⟨h1, trivial⟩
            · cases h1)
          (g := F0 m pc ls ((.int n :: .int dp :: va_rf (some j) :: .int sp :: va_rf (some i) :: st).map (gk_v ad))) rfl (s4.1.trans C.2.2.1.symm) (rest := st.map (gk_v ad)) rfl (by rw [C.2.1]; exact hd) (by have := C.2.2.2.2.2.2.2.2.2.2.1; omega) (by
            have h1 := C.2.2.2.2.2.2.2.2.2.2.2
            rw [gk_cat_map]
            show 2 * 0 + _ + (nativeFrameWords "java/lang/System" "arraycopy" 5 + 11) ≤ R.locals
            have h2 : nativeFrameWords "java/lang/System" "arraycopy" 5 = 7 := by decide
            omega)
        have hl2 : ad j < H.size := (Array.getElem?_eq_some_iff.mp g1).1
        have hheap : ((T.setVm vm').setCell (ad j) (copied cs cdd sp dp n)).heap = H.setIfInBounds (ad j) (copied cs cdd sp dp n) := by rw [← hT]; rfl
        have oq : ∀ q : Nat, q ≠ ad j → (H.setIfInBounds (ad j) (copied cs cdd sp dp n))[q]? = H[q]? := fun q hq => by simp [Array.getElem?_setIfInBounds, Ne.symm hq]
        have osz : (H.setIfInBounds (ad j) (copied cs cdd sp dp n)).size = H.size := by simp
        have osl : (H.setIfInBounds (ad j) (copied cs cdd sp dp n))[ad j]? = some (copied cs cdd sp dp n) := by simp [Array.getElem?_setIfInBounds, hl2]
        obtain ⟨z1, z2, z3, -, -⟩ := Cell.storeRun_facts cdd dp.toNatClampNeg (cs.stretch sp.toNatClampNeg n.toNatClampNeg)
        have hlen : (cs.stretch sp.toNatClampNeg n.toNatClampNeg).length = n.toNatClampNeg := by simp [Cell.stretch]
        have hR : gk_R D ad B (gk_upd h j ((h.2.2 j).1, (h.2.2 j).2.1, gk_cpy (h.2.2 i).2.2 (h.2.2 j).2.2 sp.toNatClampNeg dp.toNatClampNeg n.toNatClampNeg)) s (H.setIfInBounds (ad j) (copied cs cdd sp dp n)) := by
          refine s1.put hj hlj rfl (fun k hk => ?_) ?_ osz oq
          · show gk_ok h.1 (gk_cpy _ _ _ _ _ k)
            unfold gk_cpy
            by_cases e : dp.toNatClampNeg ≤ k ∧ k < dp.toNatClampNeg + n.toNatClampNeg
            · rw [if_pos e]
              exact s1.2.2.2.2.1 i _ (by rw [ti]; decide) (by omega)
            · rw [if_neg e]
              exact s1.2.2.2.2.1 j k (by rw [tj]; decide) hk
          · unfold gk_at
            have he : gk_el (((h.2.2 j).1, (h.2.2 j).2.1, gk_cpy (h.2.2 i).2.2 (h.2.2 j).2.2 sp.toNatClampNeg dp.toNatClampNeg n.toNatClampNeg) : gk_O).1 = some .byte := by
              show gk_el (h.2.2 j).1 = _
              rw [tj]; rfl
            rw [he]
            refine ⟨_, osl, ⟨⟨fun q => by rw [z2]; exact gs q, kG, by rw [z1]; exact gk, cG, gkk⟩, by rw [z2]; exact g3, by rw [z3]; exact g4, by rw [z3]; exact g5, fun k hk => ?_, fun C hC => by cases hC⟩, fun hj9 => ⟨by rw [z3]; exact (gx hj9).1, fun e9 => by rw [z1]; exact (gx hj9).2 e9⟩⟩
            have hk2 : k < (h.2.2 j).2.1 := hk
            show (copied cs cdd sp dp n).slots[k]? = some (gk_v ad (gk_cpy _ _ _ _ _ k))
            unfold copied gk_cpy
            rw [Cell.storeRun_get _ _ _ _ (by rw [hlen]; omega), hlen]
            by_cases e : dp.toNatClampNeg ≤ k ∧ k < dp.toNatClampNeg + n.toNatClampNeg
            · rw [if_pos e, if_pos e]
              have hkn : k - dp.toNatClampNeg < n.toNatClampNeg := by omega
              unfold Cell.stretch
              rw [List.getElem?_map, List.getElem?_range hkn]
              show some (cs.slots.getD _ _) = _
              rw [hst _ hkn]
            · rw [if_neg e, if_neg e]
              exact g6 k hk2
        obtain ⟨t, a1, a2⟩ := k3 p l e R s m args below meth cd _ _ cells slots ls D ad B n0 u0 mc ms Qc XC C ⟨hR, s2, ⟨by rw [osz]; exact s3.1, fun q q1 q2 => by
            rw [oq q (fun e => q2 (by rw [e]; exact hB))]
            exact s3.2.1 q q1 q2, fun q hq => by
            rcases List.mem_append.mp hq with z | z
            · exact s3.2.2 q z
            · obtain ⟨z, -, hz⟩ := List.mem_map.mp z
              rw [← hz]
              exact hB⟩, s4, s5, gk_dr1 (gk_dr1 (gk_dr1 (gk_dr1 (gk_dr1 s6)))), s7, s8, s9⟩ r1 r2 r3 r4 E _ hheap X'
        exact ⟨t, step t a1, a2⟩
      · simp only [if_neg hc, Option.bind_none] at hx
        cases hx
end GKC
