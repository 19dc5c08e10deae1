/-! GENERATED (gen/ov.py): rows of the overlay -/
theorem gv_fitI (c k : Nat) (h : gk_ty c k = .int) (v : Int32) : gk_fit (gk_ty c k) (.int v) = true := by
  rw [h]
  simp [gk_fit, narrow, fits]
theorem gv_fitD (c k : Nat) (h : gk_ty c k = .double) (v : UInt64) : gk_fit (gk_ty c k) (.double v) = true := by
  rw [h]
  simp [gk_fit, narrow, fits]
theorem gv_c30I {S : gv_S} {k : Nat} (v : Int32) (b : Nat) (hk : (gv_c30 S k).category = (gv_c30 S k).category) : True := trivial
section GVR
variable {β : Type} {h : gk_H} {S : gv_S}
theorem gg_16_1 (K : Int32 → Option β) : ((gk_get (gv_ov h S) (some 16) 5 1).bind gk_asI).bind K = K (S.1 16 1) := by
  rw [gv_get rfl rfl]
  rfl
theorem gs_16_1 (v : Int32) (K : gk_H → Option β) : (gk_set (gv_ov h S) (some 16) 5 1 (.int v)).bind K = K (gv_ov h (gv_uI S 16 1 v)) := by
  rw [gv_set (S' := gv_uI S 16 1 v) rfl rfl (gv_fitI 5 1 rfl v) (fun j => ?_) (fun j a hj => ?_)]
  · rfl
  · by_cases e : j = 1
    · subst e
      rfl
    · unfold gk_put
      rw [if_neg e]
      have q : ∀ b, b ≠ 1 → gv_c16 S b = gv_c16 (gv_uI S 16 1 v) b := fun b hb => by
        unfold gv_c16
        split <;> first | rfl | exact absurd rfl hb | simp [gv_uI, hb]
      exact q j e
  · exact gv_ctI j a hj
theorem gr_16_0 (K : Option Nat → Option β) : ((gk_get (gv_ov h S) (some 16) 5 0).bind gk_asR).bind K = K (some 17) := by
  rw [gv_get rfl rfl]
  rfl
theorem gr_16_2 (K : Option Nat → Option β) : ((gk_get (gv_ov h S) (some 16) 5 2).bind gk_asR).bind K = K (some 18) := by
  rw [gv_get rfl rfl]
  rfl
theorem gr_16_3 (K : Option Nat → Option β) : ((gk_get (gv_ov h S) (some 16) 5 3).bind gk_asR).bind K = K (some 20) := by
  rw [gv_get rfl rfl]
  rfl
theorem gc_16 {α : Type} (x : Option (α × gk_H)) (K : α → gk_H → Option β) : gk_cv (gv_ov h S) (some 16) 5 x K = gk_ca x K := by
  unfold gk_cv gk_rcv
  rfl
theorem gg_20_2 (K : Int32 → Option β) : ((gk_get (gv_ov h S) (some 20) 4 2).bind gk_asI).bind K = K (S.1 20 2) := by
  rw [gv_get rfl rfl]
  rfl
theorem gs_20_2 (v : Int32) (K : gk_H → Option β) : (gk_set (gv_ov h S) (some 20) 4 2 (.int v)).bind K = K (gv_ov h (gv_uI S 20 2 v)) := by
  rw [gv_set (S' := gv_uI S 20 2 v) rfl rfl (gv_fitI 4 2 rfl v) (fun j => ?_) (fun j a hj => ?_)]
  · rfl
  · by_cases e : j = 2
    · subst e
      rfl
    · unfold gk_put
      rw [if_neg e]
      have q : ∀ b, b ≠ 2 → gv_c20 S b = gv_c20 (gv_uI S 20 2 v) b := fun b hb => by
        unfold gv_c20
        split <;> first | rfl | exact absurd rfl hb | simp [gv_uI, hb]
      exact q j e
  · exact gv_ctI j a hj
theorem gg_20_3 (K : Int32 → Option β) : ((gk_get (gv_ov h S) (some 20) 4 3).bind gk_asI).bind K = K (S.1 20 3) := by
  rw [gv_get rfl rfl]
  rfl
theorem gs_20_3 (v : Int32) (K : gk_H → Option β) : (gk_set (gv_ov h S) (some 20) 4 3 (.int v)).bind K = K (gv_ov h (gv_uI S 20 3 v)) := by
  rw [gv_set (S' := gv_uI S 20 3 v) rfl rfl (gv_fitI 4 3 rfl v) (fun j => ?_) (fun j a hj => ?_)]
  · rfl
  · by_cases e : j = 3
    · subst e
      rfl
    · unfold gk_put
      rw [if_neg e]
      have q : ∀ b, b ≠ 3 → gv_c20 S b = gv_c20 (gv_uI S 20 3 v) b := fun b hb => by
        unfold gv_c20
        split <;> first | rfl | exact absurd rfl hb | simp [gv_uI, hb]
      exact q j e
  · exact gv_ctI j a hj
theorem gg_20_5 (K : Int32 → Option β) : ((gk_get (gv_ov h S) (some 20) 4 5).bind gk_asI).bind K = K (S.1 20 5) := by
  rw [gv_get rfl rfl]
  rfl
theorem gs_20_5 (v : Int32) (K : gk_H → Option β) : (gk_set (gv_ov h S) (some 20) 4 5 (.int v)).bind K = K (gv_ov h (gv_uI S 20 5 v)) := by
  rw [gv_set (S' := gv_uI S 20 5 v) rfl rfl (gv_fitI 4 5 rfl v) (fun j => ?_) (fun j a hj => ?_)]
  · rfl
  · by_cases e : j = 5
    · subst e
      rfl
    · unfold gk_put
      rw [if_neg e]
      have q : ∀ b, b ≠ 5 → gv_c20 S b = gv_c20 (gv_uI S 20 5 v) b := fun b hb => by
        unfold gv_c20
        split <;> first | rfl | exact absurd rfl hb | simp [gv_uI, hb]
      exact q j e
  · exact gv_ctI j a hj
theorem gr_20_0 (K : Option Nat → Option β) : ((gk_get (gv_ov h S) (some 20) 4 0).bind gk_asR).bind K = K (some 21) := by
  rw [gv_get rfl rfl]
  rfl
theorem gr_20_1 (K : Option Nat → Option β) : ((gk_get (gv_ov h S) (some 20) 4 1).bind gk_asR).bind K = K (some 22) := by
  rw [gv_get rfl rfl]
  rfl
theorem gr_20_4 (K : Option Nat → Option β) : ((gk_get (gv_ov h S) (some 20) 4 4).bind gk_asR).bind K = K (some 23) := by
  rw [gv_get rfl rfl]
  rfl
theorem gr_20_6 (K : Option Nat → Option β) : ((gk_get (gv_ov h S) (some 20) 4 6).bind gk_asR).bind K = K (some 24) := by
  rw [gv_get rfl rfl]
  rfl
theorem gr_20_7 (K : Option Nat → Option β) : ((gk_get (gv_ov h S) (some 20) 4 7).bind gk_asR).bind K = K (some 25) := by
  rw [gv_get rfl rfl]
  rfl
theorem gr_20_8 (K : Option Nat → Option β) : ((gk_get (gv_ov h S) (some 20) 4 8).bind gk_asR).bind K = K (some 26) := by
  rw [gv_get rfl rfl]
  rfl
theorem gc_20 {α : Type} (x : Option (α × gk_H)) (K : α → gk_H → Option β) : gk_cv (gv_ov h S) (some 20) 4 x K = gk_ca x K := by
  unfold gk_cv gk_rcv
  rfl
theorem gg_26_1 (K : Int32 → Option β) : ((gk_get (gv_ov h S) (some 26) 3 1).bind gk_asI).bind K = K (S.1 26 1) := by
  rw [gv_get rfl rfl]
  rfl
theorem gs_26_1 (v : Int32) (K : gk_H → Option β) : (gk_set (gv_ov h S) (some 26) 3 1 (.int v)).bind K = K (gv_ov h (gv_uI S 26 1 v)) := by
  rw [gv_set (S' := gv_uI S 26 1 v) rfl rfl (gv_fitI 3 1 rfl v) (fun j => ?_) (fun j a hj => ?_)]
  · rfl
  · by_cases e : j = 1
    · subst e
      rfl
    · unfold gk_put
      rw [if_neg e]
      have q : ∀ b, b ≠ 1 → gv_c26 S b = gv_c26 (gv_uI S 26 1 v) b := fun b hb => by
        unfold gv_c26
        split <;> first | rfl | exact absurd rfl hb | simp [gv_uI, hb]
      exact q j e
  · exact gv_ctI j a hj
theorem gr_26_0 (K : Option Nat → Option β) : ((gk_get (gv_ov h S) (some 26) 3 0).bind gk_asR).bind K = K (some 27) := by
  rw [gv_get rfl rfl]
  rfl
theorem gr_26_2 (K : Option Nat → Option β) : ((gk_get (gv_ov h S) (some 26) 3 2).bind gk_asR).bind K = K (some 28) := by
  rw [gv_get rfl rfl]
  rfl
theorem gr_26_3 (K : Option Nat → Option β) : ((gk_get (gv_ov h S) (some 26) 3 3).bind gk_asR).bind K = K (some 29) := by
  rw [gv_get rfl rfl]
  rfl
theorem gc_26 {α : Type} (x : Option (α × gk_H)) (K : α → gk_H → Option β) : gk_cv (gv_ov h S) (some 26) 3 x K = gk_ca x K := by
  unfold gk_cv gk_rcv
  rfl
theorem gg_30_0 (K : Int32 → Option β) : ((gk_get (gv_ov h S) (some 30) 7 0).bind gk_asI).bind K = K (S.1 30 0) := by
  rw [gv_get rfl rfl]
  rfl
theorem gs_30_0 (v : Int32) (K : gk_H → Option β) : (gk_set (gv_ov h S) (some 30) 7 0 (.int v)).bind K = K (gv_ov h (gv_uI S 30 0 v)) := by
  rw [gv_set (S' := gv_uI S 30 0 v) rfl rfl (gv_fitI 7 0 rfl v) (fun j => ?_) (fun j a hj => ?_)]
  · rfl
  · by_cases e : j = 0
    · subst e
      rfl
    · unfold gk_put
      rw [if_neg e]
      have q : ∀ b, b ≠ 0 → gv_c30 S b = gv_c30 (gv_uI S 30 0 v) b := fun b hb => by
        unfold gv_c30
        split <;> first | rfl | exact absurd rfl hb | simp [gv_uI, hb]
      exact q j e
  · exact gv_ctI j a hj
theorem gg_30_1 (K : Int32 → Option β) : ((gk_get (gv_ov h S) (some 30) 7 1).bind gk_asI).bind K = K (S.1 30 1) := by
  rw [gv_get rfl rfl]
  rfl
theorem gs_30_1 (v : Int32) (K : gk_H → Option β) : (gk_set (gv_ov h S) (some 30) 7 1 (.int v)).bind K = K (gv_ov h (gv_uI S 30 1 v)) := by
  rw [gv_set (S' := gv_uI S 30 1 v) rfl rfl (gv_fitI 7 1 rfl v) (fun j => ?_) (fun j a hj => ?_)]
  · rfl
  · by_cases e : j = 1
    · subst e
      rfl
    · unfold gk_put
      rw [if_neg e]
      have q : ∀ b, b ≠ 1 → gv_c30 S b = gv_c30 (gv_uI S 30 1 v) b := fun b hb => by
        unfold gv_c30
        split <;> first | rfl | exact absurd rfl hb | simp [gv_uI, hb]
      exact q j e
  · exact gv_ctI j a hj
theorem gg_30_3 (K : Int32 → Option β) : ((gk_get (gv_ov h S) (some 30) 7 3).bind gk_asI).bind K = K (S.1 30 3) := by
  rw [gv_get rfl rfl]
  rfl
theorem gs_30_3 (v : Int32) (K : gk_H → Option β) : (gk_set (gv_ov h S) (some 30) 7 3 (.int v)).bind K = K (gv_ov h (gv_uI S 30 3 v)) := by
  rw [gv_set (S' := gv_uI S 30 3 v) rfl rfl (gv_fitI 7 3 rfl v) (fun j => ?_) (fun j a hj => ?_)]
  · rfl
  · by_cases e : j = 3
    · subst e
      rfl
    · unfold gk_put
      rw [if_neg e]
      have q : ∀ b, b ≠ 3 → gv_c30 S b = gv_c30 (gv_uI S 30 3 v) b := fun b hb => by
        unfold gv_c30
        split <;> first | rfl | exact absurd rfl hb | simp [gv_uI, hb]
      exact q j e
  · exact gv_ctI j a hj
theorem gg_30_11 (K : Int32 → Option β) : ((gk_get (gv_ov h S) (some 30) 7 11).bind gk_asI).bind K = K (S.1 30 11) := by
  rw [gv_get rfl rfl]
  rfl
theorem gs_30_11 (v : Int32) (K : gk_H → Option β) : (gk_set (gv_ov h S) (some 30) 7 11 (.int v)).bind K = K (gv_ov h (gv_uI S 30 11 v)) := by
  rw [gv_set (S' := gv_uI S 30 11 v) rfl rfl (gv_fitI 7 11 rfl v) (fun j => ?_) (fun j a hj => ?_)]
  · rfl
  · by_cases e : j = 11
    · subst e
      rfl
    · unfold gk_put
      rw [if_neg e]
      have q : ∀ b, b ≠ 11 → gv_c30 S b = gv_c30 (gv_uI S 30 11 v) b := fun b hb => by
        unfold gv_c30
        split <;> first | rfl | exact absurd rfl hb | simp [gv_uI, hb]
      exact q j e
  · exact gv_ctI j a hj
theorem gg_30_12 (K : Int32 → Option β) : ((gk_get (gv_ov h S) (some 30) 7 12).bind gk_asI).bind K = K (S.1 30 12) := by
  rw [gv_get rfl rfl]
  rfl
theorem gs_30_12 (v : Int32) (K : gk_H → Option β) : (gk_set (gv_ov h S) (some 30) 7 12 (.int v)).bind K = K (gv_ov h (gv_uI S 30 12 v)) := by
  rw [gv_set (S' := gv_uI S 30 12 v) rfl rfl (gv_fitI 7 12 rfl v) (fun j => ?_) (fun j a hj => ?_)]
  · rfl
  · by_cases e : j = 12
    · subst e
      rfl
    · unfold gk_put
      rw [if_neg e]
      have q : ∀ b, b ≠ 12 → gv_c30 S b = gv_c30 (gv_uI S 30 12 v) b := fun b hb => by
        unfold gv_c30
        split <;> first | rfl | exact absurd rfl hb | simp [gv_uI, hb]
      exact q j e
  · exact gv_ctI j a hj
theorem gg_30_16 (K : UInt64 → Option β) : ((gk_get (gv_ov h S) (some 30) 7 16).bind gk_asD).bind K = K (S.2.1 30 16) := by
  rw [gv_get rfl rfl]
  rfl
theorem gs_30_16 (v : UInt64) (K : gk_H → Option β) : (gk_set (gv_ov h S) (some 30) 7 16 (.double v)).bind K = K (gv_ov h (gv_uD S 30 16 v)) := by
  rw [gv_set (S' := gv_uD S 30 16 v) rfl rfl (gv_fitD 7 16 rfl v) (fun j => ?_) (fun j a hj => ?_)]
  · rfl
  · by_cases e : j = 16
    · subst e
      rfl
    · unfold gk_put
      rw [if_neg e]
      have q : ∀ b, b ≠ 16 → gv_c30 S b = gv_c30 (gv_uD S 30 16 v) b := fun b hb => by
        unfold gv_c30
        split <;> first | rfl | exact absurd rfl hb | simp [gv_uD, hb]
      exact q j e
  · exact gv_ctD j a hj
theorem gg_30_17 (K : Int32 → Option β) : ((gk_get (gv_ov h S) (some 30) 7 17).bind gk_asI).bind K = K (S.1 30 17) := by
  rw [gv_get rfl rfl]
  rfl
theorem gs_30_17 (v : Int32) (K : gk_H → Option β) : (gk_set (gv_ov h S) (some 30) 7 17 (.int v)).bind K = K (gv_ov h (gv_uI S 30 17 v)) := by
  rw [gv_set (S' := gv_uI S 30 17 v) rfl rfl (gv_fitI 7 17 rfl v) (fun j => ?_) (fun j a hj => ?_)]
  · rfl
  · by_cases e : j = 17
    · subst e
      rfl
    · unfold gk_put
      rw [if_neg e]
      have q : ∀ b, b ≠ 17 → gv_c30 S b = gv_c30 (gv_uI S 30 17 v) b := fun b hb => by
        unfold gv_c30
        split <;> first | rfl | exact absurd rfl hb | simp [gv_uI, hb]
      exact q j e
  · exact gv_ctI j a hj
theorem gg_30_18 (K : Int32 → Option β) : ((gk_get (gv_ov h S) (some 30) 7 18).bind gk_asI).bind K = K (S.1 30 18) := by
  rw [gv_get rfl rfl]
  rfl
theorem gs_30_18 (v : Int32) (K : gk_H → Option β) : (gk_set (gv_ov h S) (some 30) 7 18 (.int v)).bind K = K (gv_ov h (gv_uI S 30 18 v)) := by
  rw [gv_set (S' := gv_uI S 30 18 v) rfl rfl (gv_fitI 7 18 rfl v) (fun j => ?_) (fun j a hj => ?_)]
  · rfl
  · by_cases e : j = 18
    · subst e
      rfl
    · unfold gk_put
      rw [if_neg e]
      have q : ∀ b, b ≠ 18 → gv_c30 S b = gv_c30 (gv_uI S 30 18 v) b := fun b hb => by
        unfold gv_c30
        split <;> first | rfl | exact absurd rfl hb | simp [gv_uI, hb]
      exact q j e
  · exact gv_ctI j a hj
theorem gg_30_19 (K : UInt64 → Option β) : ((gk_get (gv_ov h S) (some 30) 7 19).bind gk_asD).bind K = K (S.2.1 30 19) := by
  rw [gv_get rfl rfl]
  rfl
theorem gs_30_19 (v : UInt64) (K : gk_H → Option β) : (gk_set (gv_ov h S) (some 30) 7 19 (.double v)).bind K = K (gv_ov h (gv_uD S 30 19 v)) := by
  rw [gv_set (S' := gv_uD S 30 19 v) rfl rfl (gv_fitD 7 19 rfl v) (fun j => ?_) (fun j a hj => ?_)]
  · rfl
  · by_cases e : j = 19
    · subst e
      rfl
    · unfold gk_put
      rw [if_neg e]
      have q : ∀ b, b ≠ 19 → gv_c30 S b = gv_c30 (gv_uD S 30 19 v) b := fun b hb => by
        unfold gv_c30
        split <;> first | rfl | exact absurd rfl hb | simp [gv_uD, hb]
      exact q j e
  · exact gv_ctD j a hj
theorem gg_30_20 (K : Int32 → Option β) : ((gk_get (gv_ov h S) (some 30) 7 20).bind gk_asI).bind K = K (S.1 30 20) := by
  rw [gv_get rfl rfl]
  rfl
theorem gs_30_20 (v : Int32) (K : gk_H → Option β) : (gk_set (gv_ov h S) (some 30) 7 20 (.int v)).bind K = K (gv_ov h (gv_uI S 30 20 v)) := by
  rw [gv_set (S' := gv_uI S 30 20 v) rfl rfl (gv_fitI 7 20 rfl v) (fun j => ?_) (fun j a hj => ?_)]
  · rfl
  · by_cases e : j = 20
    · subst e
      rfl
    · unfold gk_put
      rw [if_neg e]
      have q : ∀ b, b ≠ 20 → gv_c30 S b = gv_c30 (gv_uI S 30 20 v) b := fun b hb => by
        unfold gv_c30
        split <;> first | rfl | exact absurd rfl hb | simp [gv_uI, hb]
      exact q j e
  · exact gv_ctI j a hj
theorem gg_30_21 (K : Int32 → Option β) : ((gk_get (gv_ov h S) (some 30) 7 21).bind gk_asI).bind K = K (S.1 30 21) := by
  rw [gv_get rfl rfl]
  rfl
theorem gs_30_21 (v : Int32) (K : gk_H → Option β) : (gk_set (gv_ov h S) (some 30) 7 21 (.int v)).bind K = K (gv_ov h (gv_uI S 30 21 v)) := by
  rw [gv_set (S' := gv_uI S 30 21 v) rfl rfl (gv_fitI 7 21 rfl v) (fun j => ?_) (fun j a hj => ?_)]
  · rfl
  · by_cases e : j = 21
    · subst e
      rfl
    · unfold gk_put
      rw [if_neg e]
      have q : ∀ b, b ≠ 21 → gv_c30 S b = gv_c30 (gv_uI S 30 21 v) b := fun b hb => by
        unfold gv_c30
        split <;> first | rfl | exact absurd rfl hb | simp [gv_uI, hb]
      exact q j e
  · exact gv_ctI j a hj
theorem gg_30_22 (K : Int32 → Option β) : ((gk_get (gv_ov h S) (some 30) 7 22).bind gk_asI).bind K = K (S.1 30 22) := by
  rw [gv_get rfl rfl]
  rfl
theorem gs_30_22 (v : Int32) (K : gk_H → Option β) : (gk_set (gv_ov h S) (some 30) 7 22 (.int v)).bind K = K (gv_ov h (gv_uI S 30 22 v)) := by
  rw [gv_set (S' := gv_uI S 30 22 v) rfl rfl (gv_fitI 7 22 rfl v) (fun j => ?_) (fun j a hj => ?_)]
  · rfl
  · by_cases e : j = 22
    · subst e
      rfl
    · unfold gk_put
      rw [if_neg e]
      have q : ∀ b, b ≠ 22 → gv_c30 S b = gv_c30 (gv_uI S 30 22 v) b := fun b hb => by
        unfold gv_c30
        split <;> first | rfl | exact absurd rfl hb | simp [gv_uI, hb]
      exact q j e
  · exact gv_ctI j a hj
theorem gg_30_23 (K : Int32 → Option β) : ((gk_get (gv_ov h S) (some 30) 7 23).bind gk_asI).bind K = K (S.1 30 23) := by
  rw [gv_get rfl rfl]
  rfl
theorem gs_30_23 (v : Int32) (K : gk_H → Option β) : (gk_set (gv_ov h S) (some 30) 7 23 (.int v)).bind K = K (gv_ov h (gv_uI S 30 23 v)) := by
  rw [gv_set (S' := gv_uI S 30 23 v) rfl rfl (gv_fitI 7 23 rfl v) (fun j => ?_) (fun j a hj => ?_)]
  · rfl
  · by_cases e : j = 23
    · subst e
      rfl
    · unfold gk_put
      rw [if_neg e]
      have q : ∀ b, b ≠ 23 → gv_c30 S b = gv_c30 (gv_uI S 30 23 v) b := fun b hb => by
        unfold gv_c30
        split <;> first | rfl | exact absurd rfl hb | simp [gv_uI, hb]
      exact q j e
  · exact gv_ctI j a hj
theorem gg_30_24 (K : Int32 → Option β) : ((gk_get (gv_ov h S) (some 30) 7 24).bind gk_asI).bind K = K (S.1 30 24) := by
  rw [gv_get rfl rfl]
  rfl
theorem gs_30_24 (v : Int32) (K : gk_H → Option β) : (gk_set (gv_ov h S) (some 30) 7 24 (.int v)).bind K = K (gv_ov h (gv_uI S 30 24 v)) := by
  rw [gv_set (S' := gv_uI S 30 24 v) rfl rfl (gv_fitI 7 24 rfl v) (fun j => ?_) (fun j a hj => ?_)]
  · rfl
  · by_cases e : j = 24
    · subst e
      rfl
    · unfold gk_put
      rw [if_neg e]
      have q : ∀ b, b ≠ 24 → gv_c30 S b = gv_c30 (gv_uI S 30 24 v) b := fun b hb => by
        unfold gv_c30
        split <;> first | rfl | exact absurd rfl hb | simp [gv_uI, hb]
      exact q j e
  · exact gv_ctI j a hj
theorem gr_30_2 (K : Option Nat → Option β) : ((gk_get (gv_ov h S) (some 30) 7 2).bind gk_asR).bind K = K (some 31) := by
  rw [gv_get rfl rfl]
  rfl
theorem gr_30_4 (K : Option Nat → Option β) : ((gk_get (gv_ov h S) (some 30) 7 4).bind gk_asR).bind K = K (some 32) := by
  rw [gv_get rfl rfl]
  rfl
theorem gr_30_5 (K : Option Nat → Option β) : ((gk_get (gv_ov h S) (some 30) 7 5).bind gk_asR).bind K = K (some 33) := by
  rw [gv_get rfl rfl]
  rfl
theorem gr_30_6 (K : Option Nat → Option β) : ((gk_get (gv_ov h S) (some 30) 7 6).bind gk_asR).bind K = K (some 34) := by
  rw [gv_get rfl rfl]
  rfl
theorem gr_30_7 (K : Option Nat → Option β) : ((gk_get (gv_ov h S) (some 30) 7 7).bind gk_asR).bind K = K (some 35) := by
  rw [gv_get rfl rfl]
  rfl
theorem gr_30_8 (K : Option Nat → Option β) : ((gk_get (gv_ov h S) (some 30) 7 8).bind gk_asR).bind K = K (some 36) := by
  rw [gv_get rfl rfl]
  rfl
theorem gr_30_9 (K : Option Nat → Option β) : ((gk_get (gv_ov h S) (some 30) 7 9).bind gk_asR).bind K = K (some 37) := by
  rw [gv_get rfl rfl]
  rfl
theorem gr_30_10 (K : Option Nat → Option β) : ((gk_get (gv_ov h S) (some 30) 7 10).bind gk_asR).bind K = K (some 38) := by
  rw [gv_get rfl rfl]
  rfl
theorem gr_30_13 (K : Option Nat → Option β) : ((gk_get (gv_ov h S) (some 30) 7 13).bind gk_asR).bind K = K (some 39) := by
  rw [gv_get rfl rfl]
  rfl
theorem gr_30_14 (K : Option Nat → Option β) : ((gk_get (gv_ov h S) (some 30) 7 14).bind gk_asR).bind K = K (some 40) := by
  rw [gv_get rfl rfl]
  rfl
theorem gr_30_15 (K : Option Nat → Option β) : ((gk_get (gv_ov h S) (some 30) 7 15).bind gk_asR).bind K = K (some 41) := by
  rw [gv_get rfl rfl]
  rfl
theorem gc_30 {α : Type} (x : Option (α × gk_H)) (K : α → gk_H → Option β) : gk_cv (gv_ov h S) (some 30) 7 x K = gk_ca x K := by
  unfold gk_cv gk_rcv
  rfl
theorem ga_17 {n : Nat} (hn : n < 16) (K : Option Nat → Option β) : ((gk_ald (gv_ov h S) (some 17) 7 (gI n)).bind gk_asR).bind K = K (S.2.2.1 17 n) := by
  rw [gv_ald (i := 17) (t := 7) (x := gI n) rfl rfl (gI_inb 16 n hn (by decide)), gI_nat n (Nat.lt_trans hn (by decide))]
  cases e : S.2.2.1 17 n <;> simp [gv_ct, va_rf, gk_asR, e]
theorem gt_17 {n : Nat} (hn : n < 16) (v : Option Nat) (hm : gk_may (gv_ov h S) 7 (va_rf v) = true) (K : gk_H → Option β) : (gk_ast (gv_ov h S) (some 17) 7 (gI n) (va_rf v)).bind K = K (gv_ov h (gv_uR S 17 n v)) := by
  rw [gv_ast (i := 17) (t := 7) (x := gI n) (S' := gv_uR S 17 n v) rfl rfl (gI_inb 16 n hn (by decide)) hm (fun j => ?_) (fun j a hj => ?_)]
  · rfl
  · rw [gI_nat n (Nat.lt_trans hn (by decide))]
    unfold gk_put
    by_cases e : j = n
    · subst e
      rw [if_pos rfl]
      cases v <;> simp [gv_ct, gv_uR, va_rf, gk_tyt, gk_el, narrow]
    · rw [if_neg e]
      simp [gv_ct, gv_uR, e]
  · exact gv_ctR j a hj
theorem gl_17 (K : Int32 → Option β) : (gk_len (gv_ov h S) (some 17)).bind K = K (gI 16) := rfl
theorem ga_21 {n : Nat} (hn : n < 8) (K : Option Nat → Option β) : ((gk_ald (gv_ov h S) (some 21) 7 (gI n)).bind gk_asR).bind K = K (S.2.2.1 21 n) := by
  rw [gv_ald (i := 21) (t := 7) (x := gI n) rfl rfl (gI_inb 8 n hn (by decide)), gI_nat n (Nat.lt_trans hn (by decide))]
  cases e : S.2.2.1 21 n <;> simp [gv_ct, va_rf, gk_asR, e]
theorem gt_21 {n : Nat} (hn : n < 8) (v : Option Nat) (hm : gk_may (gv_ov h S) 7 (va_rf v) = true) (K : gk_H → Option β) : (gk_ast (gv_ov h S) (some 21) 7 (gI n) (va_rf v)).bind K = K (gv_ov h (gv_uR S 21 n v)) := by
  rw [gv_ast (i := 21) (t := 7) (x := gI n) (S' := gv_uR S 21 n v) rfl rfl (gI_inb 8 n hn (by decide)) hm (fun j => ?_) (fun j a hj => ?_)]
  · rfl
  · rw [gI_nat n (Nat.lt_trans hn (by decide))]
    unfold gk_put
    by_cases e : j = n
    · subst e
      rw [if_pos rfl]
      cases v <;> simp [gv_ct, gv_uR, va_rf, gk_tyt, gk_el, narrow]
    · rw [if_neg e]
      simp [gv_ct, gv_uR, e]
  · exact gv_ctR j a hj
theorem gl_21 (K : Int32 → Option β) : (gk_len (gv_ov h S) (some 21)).bind K = K (gI 8) := rfl
theorem ga_22 {n : Nat} (hn : n < 8) (K : Option Nat → Option β) : ((gk_ald (gv_ov h S) (some 22) 7 (gI n)).bind gk_asR).bind K = K (S.2.2.1 22 n) := by
  rw [gv_ald (i := 22) (t := 7) (x := gI n) rfl rfl (gI_inb 8 n hn (by decide)), gI_nat n (Nat.lt_trans hn (by decide))]
  cases e : S.2.2.1 22 n <;> simp [gv_ct, va_rf, gk_asR, e]
theorem gt_22 {n : Nat} (hn : n < 8) (v : Option Nat) (hm : gk_may (gv_ov h S) 7 (va_rf v) = true) (K : gk_H → Option β) : (gk_ast (gv_ov h S) (some 22) 7 (gI n) (va_rf v)).bind K = K (gv_ov h (gv_uR S 22 n v)) := by
  rw [gv_ast (i := 22) (t := 7) (x := gI n) (S' := gv_uR S 22 n v) rfl rfl (gI_inb 8 n hn (by decide)) hm (fun j => ?_) (fun j a hj => ?_)]
  · rfl
  · rw [gI_nat n (Nat.lt_trans hn (by decide))]
    unfold gk_put
    by_cases e : j = n
    · subst e
      rw [if_pos rfl]
      cases v <;> simp [gv_ct, gv_uR, va_rf, gk_tyt, gk_el, narrow]
    · rw [if_neg e]
      simp [gv_ct, gv_uR, e]
  · exact gv_ctR j a hj
theorem gl_22 (K : Int32 → Option β) : (gk_len (gv_ov h S) (some 22)).bind K = K (gI 8) := rfl
theorem ga_23 {n : Nat} (hn : n < 128) (K : UInt64 → Option β) : ((gk_ald (gv_ov h S) (some 23) 6 (gI n)).bind gk_asD).bind K = K (S.2.1 23 n) := by
  rw [gv_ald (i := 23) (t := 6) (x := gI n) rfl rfl (gI_inb 128 n hn (by decide)), gI_nat n (Nat.lt_trans hn (by decide))]
  rfl
theorem gt_23 {n : Nat} (hn : n < 128) (v : UInt64) (K : gk_H → Option β) : (gk_ast (gv_ov h S) (some 23) 6 (gI n) (.double v)).bind K = K (gv_ov h (gv_uD S 23 n v)) := by
  rw [gv_ast (i := 23) (t := 6) (x := gI n) (S' := gv_uD S 23 n v) rfl rfl (gI_inb 128 n hn (by decide)) (by unfold gk_may; rfl) (fun j => ?_) (fun j a hj => ?_)]
  · rfl
  · rw [gI_nat n (Nat.lt_trans hn (by decide))]
    unfold gk_put
    by_cases e : j = n
    · subst e
      rw [if_pos rfl]
      simp [gv_ct, gv_uD, gk_tyt, gk_el, narrow, gI_b, gI_c]
    · rw [if_neg e]
      simp [gv_ct, gv_uD, e]
  · exact gv_ctD j a hj
theorem gl_23 (K : Int32 → Option β) : (gk_len (gv_ov h S) (some 23)).bind K = K (gI 128) := rfl
theorem ga_27 {n : Nat} (hn : n < 255) (K : Int32 → Option β) : ((gk_ald (gv_ov h S) (some 27) 1 (gI n)).bind gk_asI).bind K = K (S.1 27 n) := by
  rw [gv_ald (i := 27) (t := 1) (x := gI n) rfl rfl (gI_inb 255 n hn (by decide)), gI_nat n (Nat.lt_trans hn (by decide))]
  rfl
theorem gt_27 {n : Nat} (hn : n < 255) (v : Int32) (K : gk_H → Option β) : (gk_ast (gv_ov h S) (some 27) 1 (gI n) (.int v)).bind K = K (gv_ov h (gv_uI S 27 n v)) := by
  rw [gv_ast (i := 27) (t := 1) (x := gI n) (S' := gv_uI S 27 n v) rfl rfl (gI_inb 255 n hn (by decide)) (by unfold gk_may; rfl) (fun j => ?_) (fun j a hj => ?_)]
  · rfl
  · rw [gI_nat n (Nat.lt_trans hn (by decide))]
    unfold gk_put
    by_cases e : j = n
    · subst e
      rw [if_pos rfl]
      simp [gv_ct, gv_uI, gk_tyt, gk_el, narrow, gI_b, gI_c]
    · rw [if_neg e]
      simp [gv_ct, gv_uI, e]
  · exact gv_ctI j a hj
theorem gl_27 (K : Int32 → Option β) : (gk_len (gv_ov h S) (some 27)).bind K = K (gI 255) := rfl
theorem ga_28 {n : Nat} (hn : n < 255) (K : Int32 → Option β) : ((gk_ald (gv_ov h S) (some 28) 5 (gI n)).bind gk_asI).bind K = K (S.1 28 n) := by
  rw [gv_ald (i := 28) (t := 5) (x := gI n) rfl rfl (gI_inb 255 n hn (by decide)), gI_nat n (Nat.lt_trans hn (by decide))]
  rfl
theorem gt_28 {n : Nat} (hn : n < 255) (v : Int32) (K : gk_H → Option β) : (gk_ast (gv_ov h S) (some 28) 5 (gI n) (.int v)).bind K = K (gv_ov h (gv_uI S 28 n (gI_c v))) := by
  rw [gv_ast (i := 28) (t := 5) (x := gI n) (S' := gv_uI S 28 n (gI_c v)) rfl rfl (gI_inb 255 n hn (by decide)) (by unfold gk_may; rfl) (fun j => ?_) (fun j a hj => ?_)]
  · rfl
  · rw [gI_nat n (Nat.lt_trans hn (by decide))]
    unfold gk_put
    by_cases e : j = n
    · subst e
      rw [if_pos rfl]
      simp [gv_ct, gv_uI, gk_tyt, gk_el, narrow, gI_b, gI_c]
    · rw [if_neg e]
      simp [gv_ct, gv_uI, e]
  · exact gv_ctI j a hj
theorem gl_28 (K : Int32 → Option β) : (gk_len (gv_ov h S) (some 28)).bind K = K (gI 255) := rfl
theorem ga_29 {n : Nat} (hn : n < 256) (K : Int32 → Option β) : ((gk_ald (gv_ov h S) (some 29) 4 (gI n)).bind gk_asI).bind K = K (S.1 29 n) := by
  rw [gv_ald (i := 29) (t := 4) (x := gI n) rfl rfl (gI_inb 256 n hn (by decide)), gI_nat n (Nat.lt_trans hn (by decide))]
  rfl
theorem gt_29 {n : Nat} (hn : n < 256) (v : Int32) (K : gk_H → Option β) : (gk_ast (gv_ov h S) (some 29) 4 (gI n) (.int v)).bind K = K (gv_ov h (gv_uI S 29 n (v &&& 1))) := by
  rw [gv_ast (i := 29) (t := 4) (x := gI n) (S' := gv_uI S 29 n (v &&& 1)) rfl rfl (gI_inb 256 n hn (by decide)) (by unfold gk_may; rfl) (fun j => ?_) (fun j a hj => ?_)]
  · rfl
  · rw [gI_nat n (Nat.lt_trans hn (by decide))]
    unfold gk_put
    by_cases e : j = n
    · subst e
      rw [if_pos rfl]
      simp [gv_ct, gv_uI, gk_tyt, gk_el, narrow, gI_b, gI_c]
    · rw [if_neg e]
      simp [gv_ct, gv_uI, e]
  · exact gv_ctI j a hj
theorem gl_29 (K : Int32 → Option β) : (gk_len (gv_ov h S) (some 29)).bind K = K (gI 256) := rfl
theorem ga_31 {n : Nat} (hn : n < 256) (K : Int32 → Option β) : ((gk_ald (gv_ov h S) (some 31) 3 (gI n)).bind gk_asI).bind K = K (S.1 31 n) := by
  rw [gv_ald (i := 31) (t := 3) (x := gI n) rfl rfl (gI_inb 256 n hn (by decide)), gI_nat n (Nat.lt_trans hn (by decide))]
  rfl
theorem gt_31 {n : Nat} (hn : n < 256) (v : Int32) (K : gk_H → Option β) : (gk_ast (gv_ov h S) (some 31) 3 (gI n) (.int v)).bind K = K (gv_ov h (gv_uI S 31 n (gI_b v))) := by
  rw [gv_ast (i := 31) (t := 3) (x := gI n) (S' := gv_uI S 31 n (gI_b v)) rfl rfl (gI_inb 256 n hn (by decide)) (by unfold gk_may; rfl) (fun j => ?_) (fun j a hj => ?_)]
  · rfl
  · rw [gI_nat n (Nat.lt_trans hn (by decide))]
    unfold gk_put
    by_cases e : j = n
    · subst e
      rw [if_pos rfl]
      simp [gv_ct, gv_uI, gk_tyt, gk_el, narrow, gI_b, gI_c]
    · rw [if_neg e]
      simp [gv_ct, gv_uI, e]
  · exact gv_ctI j a hj
theorem gl_31 (K : Int32 → Option β) : (gk_len (gv_ov h S) (some 31)).bind K = K (gI 256) := rfl
theorem ga_32 {n : Nat} (hn : n < 17) (K : Int32 → Option β) : ((gk_ald (gv_ov h S) (some 32) 1 (gI n)).bind gk_asI).bind K = K (S.1 32 n) := by
  rw [gv_ald (i := 32) (t := 1) (x := gI n) rfl rfl (gI_inb 17 n hn (by decide)), gI_nat n (Nat.lt_trans hn (by decide))]
  rfl
theorem gt_32 {n : Nat} (hn : n < 17) (v : Int32) (K : gk_H → Option β) : (gk_ast (gv_ov h S) (some 32) 1 (gI n) (.int v)).bind K = K (gv_ov h (gv_uI S 32 n v)) := by
  rw [gv_ast (i := 32) (t := 1) (x := gI n) (S' := gv_uI S 32 n v) rfl rfl (gI_inb 17 n hn (by decide)) (by unfold gk_may; rfl) (fun j => ?_) (fun j a hj => ?_)]
  · rfl
  · rw [gI_nat n (Nat.lt_trans hn (by decide))]
    unfold gk_put
    by_cases e : j = n
    · subst e
      rw [if_pos rfl]
      simp [gv_ct, gv_uI, gk_tyt, gk_el, narrow, gI_b, gI_c]
    · rw [if_neg e]
      simp [gv_ct, gv_uI, e]
  · exact gv_ctI j a hj
theorem gl_32 (K : Int32 → Option β) : (gk_len (gv_ov h S) (some 32)).bind K = K (gI 17) := rfl
theorem ga_33 {n : Nat} (hn : n < 17) (K : Int32 → Option β) : ((gk_ald (gv_ov h S) (some 33) 1 (gI n)).bind gk_asI).bind K = K (S.1 33 n) := by
  rw [gv_ald (i := 33) (t := 1) (x := gI n) rfl rfl (gI_inb 17 n hn (by decide)), gI_nat n (Nat.lt_trans hn (by decide))]
  rfl
theorem gt_33 {n : Nat} (hn : n < 17) (v : Int32) (K : gk_H → Option β) : (gk_ast (gv_ov h S) (some 33) 1 (gI n) (.int v)).bind K = K (gv_ov h (gv_uI S 33 n v)) := by
  rw [gv_ast (i := 33) (t := 1) (x := gI n) (S' := gv_uI S 33 n v) rfl rfl (gI_inb 17 n hn (by decide)) (by unfold gk_may; rfl) (fun j => ?_) (fun j a hj => ?_)]
  · rfl
  · rw [gI_nat n (Nat.lt_trans hn (by decide))]
    unfold gk_put
    by_cases e : j = n
    · subst e
      rw [if_pos rfl]
      simp [gv_ct, gv_uI, gk_tyt, gk_el, narrow, gI_b, gI_c]
    · rw [if_neg e]
      simp [gv_ct, gv_uI, e]
  · exact gv_ctI j a hj
theorem gl_33 (K : Int32 → Option β) : (gk_len (gv_ov h S) (some 33)).bind K = K (gI 17) := rfl
theorem ga_34 {n : Nat} (hn : n < 17) (K : Int32 → Option β) : ((gk_ald (gv_ov h S) (some 34) 1 (gI n)).bind gk_asI).bind K = K (S.1 34 n) := by
  rw [gv_ald (i := 34) (t := 1) (x := gI n) rfl rfl (gI_inb 17 n hn (by decide)), gI_nat n (Nat.lt_trans hn (by decide))]
  rfl
theorem gt_34 {n : Nat} (hn : n < 17) (v : Int32) (K : gk_H → Option β) : (gk_ast (gv_ov h S) (some 34) 1 (gI n) (.int v)).bind K = K (gv_ov h (gv_uI S 34 n v)) := by
  rw [gv_ast (i := 34) (t := 1) (x := gI n) (S' := gv_uI S 34 n v) rfl rfl (gI_inb 17 n hn (by decide)) (by unfold gk_may; rfl) (fun j => ?_) (fun j a hj => ?_)]
  · rfl
  · rw [gI_nat n (Nat.lt_trans hn (by decide))]
    unfold gk_put
    by_cases e : j = n
    · subst e
      rw [if_pos rfl]
      simp [gv_ct, gv_uI, gk_tyt, gk_el, narrow, gI_b, gI_c]
    · rw [if_neg e]
      simp [gv_ct, gv_uI, e]
  · exact gv_ctI j a hj
theorem gl_34 (K : Int32 → Option β) : (gk_len (gv_ov h S) (some 34)).bind K = K (gI 17) := rfl
theorem ga_35 {n : Nat} (hn : n < 272) (K : Int32 → Option β) : ((gk_ald (gv_ov h S) (some 35) 1 (gI n)).bind gk_asI).bind K = K (S.1 35 n) := by
  rw [gv_ald (i := 35) (t := 1) (x := gI n) rfl rfl (gI_inb 272 n hn (by decide)), gI_nat n (Nat.lt_trans hn (by decide))]
  rfl
theorem gt_35 {n : Nat} (hn : n < 272) (v : Int32) (K : gk_H → Option β) : (gk_ast (gv_ov h S) (some 35) 1 (gI n) (.int v)).bind K = K (gv_ov h (gv_uI S 35 n v)) := by
  rw [gv_ast (i := 35) (t := 1) (x := gI n) (S' := gv_uI S 35 n v) rfl rfl (gI_inb 272 n hn (by decide)) (by unfold gk_may; rfl) (fun j => ?_) (fun j a hj => ?_)]
  · rfl
  · rw [gI_nat n (Nat.lt_trans hn (by decide))]
    unfold gk_put
    by_cases e : j = n
    · subst e
      rw [if_pos rfl]
      simp [gv_ct, gv_uI, gk_tyt, gk_el, narrow, gI_b, gI_c]
    · rw [if_neg e]
      simp [gv_ct, gv_uI, e]
  · exact gv_ctI j a hj
theorem gl_35 (K : Int32 → Option β) : (gk_len (gv_ov h S) (some 35)).bind K = K (gI 272) := rfl
theorem ga_36 {n : Nat} (hn : n < 272) (K : UInt64 → Option β) : ((gk_ald (gv_ov h S) (some 36) 6 (gI n)).bind gk_asD).bind K = K (S.2.1 36 n) := by
  rw [gv_ald (i := 36) (t := 6) (x := gI n) rfl rfl (gI_inb 272 n hn (by decide)), gI_nat n (Nat.lt_trans hn (by decide))]
  rfl
theorem gt_36 {n : Nat} (hn : n < 272) (v : UInt64) (K : gk_H → Option β) : (gk_ast (gv_ov h S) (some 36) 6 (gI n) (.double v)).bind K = K (gv_ov h (gv_uD S 36 n v)) := by
  rw [gv_ast (i := 36) (t := 6) (x := gI n) (S' := gv_uD S 36 n v) rfl rfl (gI_inb 272 n hn (by decide)) (by unfold gk_may; rfl) (fun j => ?_) (fun j a hj => ?_)]
  · rfl
  · rw [gI_nat n (Nat.lt_trans hn (by decide))]
    unfold gk_put
    by_cases e : j = n
    · subst e
      rw [if_pos rfl]
      simp [gv_ct, gv_uD, gk_tyt, gk_el, narrow, gI_b, gI_c]
    · rw [if_neg e]
      simp [gv_ct, gv_uD, e]
  · exact gv_ctD j a hj
theorem gl_36 (K : Int32 → Option β) : (gk_len (gv_ov h S) (some 36)).bind K = K (gI 272) := rfl
theorem ga_37 {n : Nat} (hn : n < 272) (K : Int32 → Option β) : ((gk_ald (gv_ov h S) (some 37) 1 (gI n)).bind gk_asI).bind K = K (S.1 37 n) := by
  rw [gv_ald (i := 37) (t := 1) (x := gI n) rfl rfl (gI_inb 272 n hn (by decide)), gI_nat n (Nat.lt_trans hn (by decide))]
  rfl
theorem gt_37 {n : Nat} (hn : n < 272) (v : Int32) (K : gk_H → Option β) : (gk_ast (gv_ov h S) (some 37) 1 (gI n) (.int v)).bind K = K (gv_ov h (gv_uI S 37 n v)) := by
  rw [gv_ast (i := 37) (t := 1) (x := gI n) (S' := gv_uI S 37 n v) rfl rfl (gI_inb 272 n hn (by decide)) (by unfold gk_may; rfl) (fun j => ?_) (fun j a hj => ?_)]
  · rfl
  · rw [gI_nat n (Nat.lt_trans hn (by decide))]
    unfold gk_put
    by_cases e : j = n
    · subst e
      rw [if_pos rfl]
      simp [gv_ct, gv_uI, gk_tyt, gk_el, narrow, gI_b, gI_c]
    · rw [if_neg e]
      simp [gv_ct, gv_uI, e]
  · exact gv_ctI j a hj
theorem gl_37 (K : Int32 → Option β) : (gk_len (gv_ov h S) (some 37)).bind K = K (gI 272) := rfl
theorem ga_38 {n : Nat} (hn : n < 69632) (K : Int32 → Option β) : ((gk_ald (gv_ov h S) (some 38) 3 (gI n)).bind gk_asI).bind K = K (S.1 38 n) := by
  rw [gv_ald (i := 38) (t := 3) (x := gI n) rfl rfl (gI_inb 69632 n hn (by decide)), gI_nat n (Nat.lt_trans hn (by decide))]
  rfl
theorem gt_38 {n : Nat} (hn : n < 69632) (v : Int32) (K : gk_H → Option β) : (gk_ast (gv_ov h S) (some 38) 3 (gI n) (.int v)).bind K = K (gv_ov h (gv_uI S 38 n (gI_b v))) := by
  rw [gv_ast (i := 38) (t := 3) (x := gI n) (S' := gv_uI S 38 n (gI_b v)) rfl rfl (gI_inb 69632 n hn (by decide)) (by unfold gk_may; rfl) (fun j => ?_) (fun j a hj => ?_)]
  · rfl
  · rw [gI_nat n (Nat.lt_trans hn (by decide))]
    unfold gk_put
    by_cases e : j = n
    · subst e
      rw [if_pos rfl]
      simp [gv_ct, gv_uI, gk_tyt, gk_el, narrow, gI_b, gI_c]
    · rw [if_neg e]
      simp [gv_ct, gv_uI, e]
  · exact gv_ctI j a hj
theorem gl_38 (K : Int32 → Option β) : (gk_len (gv_ov h S) (some 38)).bind K = K (gI 69632) := rfl
theorem ga_39 {n : Nat} (hn : n < 128) (K : UInt64 → Option β) : ((gk_ald (gv_ov h S) (some 39) 6 (gI n)).bind gk_asD).bind K = K (S.2.1 39 n) := by
  rw [gv_ald (i := 39) (t := 6) (x := gI n) rfl rfl (gI_inb 128 n hn (by decide)), gI_nat n (Nat.lt_trans hn (by decide))]
  rfl
theorem gt_39 {n : Nat} (hn : n < 128) (v : UInt64) (K : gk_H → Option β) : (gk_ast (gv_ov h S) (some 39) 6 (gI n) (.double v)).bind K = K (gv_ov h (gv_uD S 39 n v)) := by
  rw [gv_ast (i := 39) (t := 6) (x := gI n) (S' := gv_uD S 39 n v) rfl rfl (gI_inb 128 n hn (by decide)) (by unfold gk_may; rfl) (fun j => ?_) (fun j a hj => ?_)]
  · rfl
  · rw [gI_nat n (Nat.lt_trans hn (by decide))]
    unfold gk_put
    by_cases e : j = n
    · subst e
      rw [if_pos rfl]
      simp [gv_ct, gv_uD, gk_tyt, gk_el, narrow, gI_b, gI_c]
    · rw [if_neg e]
      simp [gv_ct, gv_uD, e]
  · exact gv_ctD j a hj
theorem gl_39 (K : Int32 → Option β) : (gk_len (gv_ov h S) (some 39)).bind K = K (gI 128) := rfl
theorem ga_40 {n : Nat} (hn : n < 9) (K : Int32 → Option β) : ((gk_ald (gv_ov h S) (some 40) 1 (gI n)).bind gk_asI).bind K = K (S.1 40 n) := by
  rw [gv_ald (i := 40) (t := 1) (x := gI n) rfl rfl (gI_inb 9 n hn (by decide)), gI_nat n (Nat.lt_trans hn (by decide))]
  rfl
theorem gt_40 {n : Nat} (hn : n < 9) (v : Int32) (K : gk_H → Option β) : (gk_ast (gv_ov h S) (some 40) 1 (gI n) (.int v)).bind K = K (gv_ov h (gv_uI S 40 n v)) := by
  rw [gv_ast (i := 40) (t := 1) (x := gI n) (S' := gv_uI S 40 n v) rfl rfl (gI_inb 9 n hn (by decide)) (by unfold gk_may; rfl) (fun j => ?_) (fun j a hj => ?_)]
  · rfl
  · rw [gI_nat n (Nat.lt_trans hn (by decide))]
    unfold gk_put
    by_cases e : j = n
    · subst e
      rw [if_pos rfl]
      simp [gv_ct, gv_uI, gk_tyt, gk_el, narrow, gI_b, gI_c]
    · rw [if_neg e]
      simp [gv_ct, gv_uI, e]
  · exact gv_ctI j a hj
theorem gl_40 (K : Int32 → Option β) : (gk_len (gv_ov h S) (some 40)).bind K = K (gI 9) := rfl
theorem ga_41 {n : Nat} (hn : n < 2304) (K : Int32 → Option β) : ((gk_ald (gv_ov h S) (some 41) 3 (gI n)).bind gk_asI).bind K = K (S.1 41 n) := by
  rw [gv_ald (i := 41) (t := 3) (x := gI n) rfl rfl (gI_inb 2304 n hn (by decide)), gI_nat n (Nat.lt_trans hn (by decide))]
  rfl
theorem gt_41 {n : Nat} (hn : n < 2304) (v : Int32) (K : gk_H → Option β) : (gk_ast (gv_ov h S) (some 41) 3 (gI n) (.int v)).bind K = K (gv_ov h (gv_uI S 41 n (gI_b v))) := by
  rw [gv_ast (i := 41) (t := 3) (x := gI n) (S' := gv_uI S 41 n (gI_b v)) rfl rfl (gI_inb 2304 n hn (by decide)) (by unfold gk_may; rfl) (fun j => ?_) (fun j a hj => ?_)]
  · rfl
  · rw [gI_nat n (Nat.lt_trans hn (by decide))]
    unfold gk_put
    by_cases e : j = n
    · subst e
      rw [if_pos rfl]
      simp [gv_ct, gv_uI, gk_tyt, gk_el, narrow, gI_b, gI_c]
    · rw [if_neg e]
      simp [gv_ct, gv_uI, e]
  · exact gv_ctI j a hj
theorem gl_41 (K : Int32 → Option β) : (gk_len (gv_ov h S) (some 41)).bind K = K (gI 2304) := rfl
theorem ga_43 {n : Nat} (hn : n < 1) (K : UInt64 → Option β) : ((gk_ald (gv_ov h S) (some 43) 6 (gI n)).bind gk_asD).bind K = K (S.2.1 43 n) := by
  rw [gv_ald (i := 43) (t := 6) (x := gI n) rfl rfl (gI_inb 1 n hn (by decide)), gI_nat n (Nat.lt_trans hn (by decide))]
  rfl
theorem gt_43 {n : Nat} (hn : n < 1) (v : UInt64) (K : gk_H → Option β) : (gk_ast (gv_ov h S) (some 43) 6 (gI n) (.double v)).bind K = K (gv_ov h (gv_uD S 43 n v)) := by
  rw [gv_ast (i := 43) (t := 6) (x := gI n) (S' := gv_uD S 43 n v) rfl rfl (gI_inb 1 n hn (by decide)) (by unfold gk_may; rfl) (fun j => ?_) (fun j a hj => ?_)]
  · rfl
  · rw [gI_nat n (Nat.lt_trans hn (by decide))]
    unfold gk_put
    by_cases e : j = n
    · subst e
      rw [if_pos rfl]
      simp [gv_ct, gv_uD, gk_tyt, gk_el, narrow, gI_b, gI_c]
    · rw [if_neg e]
      simp [gv_ct, gv_uD, e]
  · exact gv_ctD j a hj
theorem gl_43 (K : Int32 → Option β) : (gk_len (gv_ov h S) (some 43)).bind K = K (gI 1) := rfl
theorem ga_42 (K : Int64 → Option β) : ((gk_ald (gv_ov h S) (some 42) 2 (gI 0)).bind gk_asL).bind K = K S.2.2.2 := rfl
theorem gt_42 (v : Int64) (K : gk_H → Option β) : (gk_ast (gv_ov h S) (some 42) 2 (gI 0) (.long v)).bind K = K (gv_ov h (gv_uL S v)) := by
  rw [gv_ast (i := 42) (t := 2) (x := gI 0) (S' := gv_uL S v) rfl rfl (gI_inb 1 0 (by decide) (by decide)) (by unfold gk_may; rfl) (fun j => ?_) (fun j a hj => ?_)]
  · rfl
  · unfold gk_put
    by_cases e : j = 0
    · subst e
      rfl
    · rw [if_neg (by exact e)]
      simp [gv_ct, e]
  · unfold gv_ct
    split <;> first | rfl | exact absurd rfl hj
end GVR
