/-! THE PURE PART: the law: the loop, the start -/
section GLL
variable {cap0 Ls : Nat} {xs : Nat → Int32} {h0 : gk_H}
theorem gl_end {n fu : Nat} {h : gk_H} {S : gv_S} (hL : Ls < 2147483648) (X : gl_X h Ls xs) (hn : Ls < 5 * n + 5) (h5 : 5 * n ≤ Ls) : f_L_law_b28 (fu + 1) (some 14) (some 16) (some 30) (some 42) (some 43) (gI (5 * n)) (gv_ov h S) = some (1, gv_ov h S) := by
  have hlen : gk_len (gv_ov h S) (some 14) = some (gI Ls) := by
    obtain ⟨a1, a2, a3⟩ := X
    have gx : (gv_ov h S).2.2 14 = h.2.2 14 := gv_no rfl
    unfold gk_len
    dsimp only
    rw [gx, a1, a2]
    rfl
  have hlt : gI Ls - (5 : Int32) < gI (5 * n) := by
    rw [Int32.lt_iff_toInt_lt, gI_N, gI_N, show (5 : Int32) = gN 5 from rfl, gN_sub, gN_toInt _ (by omega) (by omega), gN_toInt _ (by omega) (by omega)]
    omega
  unfold f_L_law_b28
  rw [hlen, Option.bind_some, if_pos hlt]
  exact if_pos rfl
theorem gl_loop (hL : Ls < 2147483648) (h14 : 14 < h0.1) (X0 : gl_X h0 Ls xs) : ∀ (r n fu : Nat) (h : gk_H) (S : gv_S), n + r = Ls / 5 → r < fu → gl_I cap0 h0 n h S → ∃ h' S', f_L_law_b28 fu (some 14) (some 16) (some 30) (some 42) (some 43) (gI (5 * n)) (gv_ov h S) = some (1, gv_ov h' S') ∧ gl_I cap0 h0 (Ls / 5) h' S'
  | _, _, 0, _, _, _, hf, _ => absurd hf (by omega)
  | 0, n, fu + 1, h, S, hr, _, I => by
    have X : gl_X h Ls xs := by
      obtain ⟨b, cap, L, u, q, a, e, w⟩ := I
      exact X0.sm h14 w.2.2.2
    have en : n = Ls / 5 := by omega
    exact ⟨h, S, gl_end hL X (by omega) (by omega), en ▸ I⟩
  | r + 1, n, fu + 1, h, S, hr, hf, I => by
    obtain ⟨h1, S1, e, I1⟩ := gl_step (fu := fu) hL h14 X0 (by omega) I
    rw [e]
    exact gl_loop hL h14 X0 r (n + 1) fu h1 S1 (by omega) (by omega) I1
end GLL
/-! the start -/
def gs0 (a : Nat) : Nat → Value
  | 0 => va_rf (some a)
  | _ => .int 0
def gb0 (l : List Nat) : Nat → Value := fun k => .int (gI (l.getD k 0))
/-- what was there before the law -/
def g0 (Ls : Nat) (xs : Nat → Int32) : Nat → gk_O
  | 1 => (1, 92, gb0 fwL)
  | 2 => (1, 92, gb0 moL)
  | 3 => (1, 12, gb0 dB)
  | 4 => (10, 2, gs0 5)
  | 5 => (3, 0, gb0 [])
  | 6 => (10, 2, gs0 7)
  | 7 => (3, 4, gb0 [84, 82, 85, 69])
  | 8 => (10, 2, gs0 9)
  | 9 => (3, 5, gb0 [70, 65, 76, 83, 69])
  | 10 => (10, 2, gs0 11)
  | 11 => (3, 0, gb0 [])
  | 12 => (10, 2, gs0 13)
  | 13 => (3, 0, gb0 [])
  | 14 => (1, Ls, fun k => .int (xs k))
  | _ => (0, 0, fun _ => .int 0)
section GLS
variable {Ls : Nat} {xs : Nat → Int32} {z : Option Nat}
theorem gl0_im : ∀ i : Fin 16, gp_im 19 i.val := by
  unfold gp_im
  decide
theorem gl0_str (i a : Nat) (l : List Nat) (hi : 1 ≤ i ∧ i < 16) (ha : 1 ≤ a ∧ a < 16) (e1 : g0 Ls xs i = (10, 2, gs0 a)) (e2 : g0 Ls xs a = (3, l.length, gb0 l)) (hl : l.length ≤ 100000) (h128 : ∀ k, k < l.length → l.getD k 0 < 128) : gp_str 19 (iH z (g0 Ls xs)) i l := by
  have h44 : (iH z (g0 Ls xs)).1 = 44 := iH_1 _ _
  have f1 := iH_low z (g0 Ls xs) i hi.1 hi.2
  have f2 := iH_low z (g0 Ls xs) a ha.1 ha.2
  rw [e1] at f1
  rw [e2] at f2
  refine ⟨by omega, gl0_im ⟨i, hi.2⟩, by rw [f1], by rw [f1]; rfl, a, by rw [f1]; rfl, by omega, gl0_im ⟨a, ha.2⟩, by rw [f2], by rw [f2], hl, fun k hk => ⟨by rw [f2]; rfl, h128 k hk⟩⟩
theorem gl0_st : gp_st (iH z (g0 Ls xs)) := by
  refine ⟨by rw [iH_1]; exact Nat.le_refl _, ?_⟩
  rw [iH_0]
  exact ⟨rfl, ⟨z, rfl⟩, rfl, rfl, rfl⟩
theorem gl0_cs : gp_cs 19 (iH z (g0 Ls xs)) := by
  refine ⟨gl0_st, by rw [iH_1]; decide, ?_, ?_, ?_, ?_, ?_⟩
  · exact gl0_str 4 5 [] (by decide) (by decide) rfl rfl (by decide) (by decide)
  · exact gl0_str 6 7 [84, 82, 85, 69] (by decide) (by decide) rfl rfl (by decide) (by decide)
  · exact gl0_str 8 9 [70, 65, 76, 83, 69] (by decide) (by decide) rfl rfl (by decide) (by decide)
  · exact gl0_str 10 11 [] (by decide) (by decide) rfl rfl (by decide) (by decide)
  · exact gl0_str 12 13 [] (by decide) (by decide) rfl rfl (by decide) (by decide)
theorem gl0_dy : gp_dy (iH z (g0 Ls xs)) := by
  refine ⟨by rw [iH_1]; exact Nat.le_refl _, ?_⟩
  rw [iH_low z (g0 Ls xs) 3 (by decide) (by decide)]
  exact ⟨rfl, rfl, fun k _ => rfl⟩
theorem gl0_ay : gp_ay (iH z (g0 Ls xs)) := by
  unfold gp_ay
  rw [iH_low z (g0 Ls xs) 1 (by decide) (by decide), iH_low z (g0 Ls xs) 2 (by decide) (by decide)]
  exact ⟨rfl, rfl, fun k _ => rfl, rfl, rfl, fun k _ => rfl⟩
theorem gl0_sb (z : Option Nat) (g : Nat → gk_O) : gp_sb (iH z g) 18 19 16 [] := by
  refine ⟨by rw [iH_1]; decide, by rw [iH_1]; decide, rfl, rfl, by decide, by decide, rfl, rfl, rfl, rfl, rfl, rfl, by decide, by decide, fun k hk => absurd hk (Nat.not_lt_zero k), fun k _ => ⟨0, by decide, ?_⟩⟩
  rfl
theorem gl0_25 (z : Option Nat) (g : Nat → gk_O) : ((iH z g).2.2 25).1 = 12 ∧ ((iH z g).2.2 25).2.2 0 = .int (gI 4) ∧ ((iH z g).2.2 25).2.2 1 = .int (gI 3) ∧ ((iH z g).2.2 25).2.2 2 = .double 0 ∧ ((iH z g).2.2 25).2.2 3 = va_rf (some 4) ∧ ((iH z g).2.2 25).2.2 4 = .int (gI 1) ∧ ((iH z g).2.2 25).2.2 5 = .int (gI 1) ∧ ((iH z g).2.2 25).2.2 6 = va_rf none := ⟨rfl, rfl, rfl, rfl, rfl, rfl, rfl, rfl⟩
theorem gl0_cell : gp_cell 19 (iH z (g0 Ls xs)) 25 (gc_e 3) := by
  obtain ⟨a1, a2, a3, a4, a5, a6, a7, a8⟩ := gl0_25 z (g0 Ls xs)
  exact ⟨gp_oke (by decide) (by decide), by rw [iH_1]; decide, by unfold gp_im; decide, a1, a2, a3, a4, ⟨4, a5, gl0_cs.2.2.1⟩, a6, a7, a8⟩
theorem gl0_I : gl_I 16 (iH z (g0 Ls xs)) 0 (iH z (g0 Ls xs)) iS := by
  refine ⟨19, 16, [], [], ⟨⟨by decide, rfl, fun m hm => absurd hm (Nat.not_lt_zero m)⟩, ⟨gl0_sb _ _, by decide, (fun c hc => nomatch hc), by decide⟩, gl0_cs, gl0_dy, gl0_ay, gl0_cell⟩, ⟨by decide, rfl, fun m hm => absurd hm (Nat.not_lt_zero m)⟩, ⟨by decide, (fun c hc => nomatch hc), rfl, fun k hk => absurd hk (Nat.not_lt_zero k)⟩, by omega, by omega, Nat.le_refl _, fun i _ hl => ⟨hl, rfl⟩⟩
/-- THE LAW over the abstract heap: on every script it ends with true, within the room -/
theorem gl_law (hL : Ls ≤ 2560) : ∃ h', f_L_law (some 14) (16, 0, g0f z (g0 Ls xs)) = some (1, h') ∧ h'.1 ≤ 16 + 601024 ∧ h'.2.1 ≤ 7293034 := by
  have X0 : gl_X (iH z (g0 Ls xs)) Ls xs := by
    unfold gl_X
    rw [iH_low z (g0 Ls xs) 14 (by decide) (by decide)]
    exact ⟨rfl, rfl, fun k _ => rfl⟩
  have h44 : (iH z (g0 Ls xs)).1 = 44 := iH_1 _ _
  have hsl : (iH z (g0 Ls xs)).2.1 = 74200 := iH_2 _ _
  obtain ⟨h', S', e, I⟩ := gl_loop (by omega) (by omega) X0 (Ls / 5) 0 gk_F (iH z (g0 Ls xs)) iS (by omega) (by unfold gk_F; omega) gl0_I
  obtain ⟨b, cap, L, u, q, a, m, w1, w2, w3, w4⟩ := I
  have hcap := q.2.1.2.2.2
  refine ⟨gv_ov h' S', ?_, ?_, ?_⟩
  · rw [iL_eq, iH_ov]
    exact e
  · show h'.1 ≤ 16 + 601024
    omega
  · show h'.2.1 ≤ 7293034
    omega
end GLS
