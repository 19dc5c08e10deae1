/-! THE PURE PART: the reference's calendar -/
def lpM (y : Nat) : Bool := lpN y || decide (y = 1900)
def mlN (y m : Nat) : Nat := if m = 2 then (if lpM y = true then 29 else 28) else if m = 4 ∨ m = 6 ∨ m = 9 ∨ m = 11 then 30 else 31
def lyN (y : Nat) : Nat := y / 4 - y / 100 + y / 400
theorem ly_step (y : Nat) : lyN (y + 1) = lyN y + (if lpN (y + 1) = true then 1 else 0) := by
  unfold lyN lpN
  by_cases z : (y + 1) % 4 = 0 ∧ ((y + 1) % 100 ≠ 0 ∨ (y + 1) % 400 = 0)
  · rw [decide_eq_true z, if_pos rfl]
    omega
  · rw [decide_eq_false z, if_neg (by decide)]
    omega
theorem ly_460 : ∀ k, 460 ≤ lyN (1899 + k)
  | 0 => by decide
  | k + 1 => by
    have := ly_460 k
    rw [show 1899 + (k + 1) = 1899 + k + 1 from rfl, ly_step]
    omega
theorem fsN_eq (k j : Nat) (hj : j < 12) : fsN (12 * k + j) + 459 = 365 * k + lyN (1899 + k) + dB.getD j 0 + (if 1 < j ∧ lpN (1900 + k) = true then 1 else 0) + (if 1 < 12 * k + j then 1 else 0) := by
  have h1 : (12 * k + j) / 12 = k := by omega
  have h2 : (12 * k + j) % 12 = j := by omega
  have h3 : 1900 + k - 1 = 1899 + k := by omega
  have h4 := ly_460 k
  unfold lyN at h4 ⊢
  unfold fsN
  rw [h1, h2, h3]
  omega
theorem mlN_b (y m : Nat) : 28 ≤ mlN y m ∧ mlN y m ≤ 31 := by
  unfold mlN
  split
  · split <;> omega
  · split <;> omega
theorem fs_12 (k : Nat) : fsN (12 * (k + 1)) = fsN (12 * k) + (if lpM (1900 + k) = true then 366 else 365) := by
  have e1 := fsN_eq (k + 1) 0 (by decide)
  have e2 := fsN_eq k 0 (by decide)
  have e3 := ly_step (1899 + k)
  rw [show 1899 + k + 1 = 1899 + (k + 1) from rfl] at e3
  rw [show 1900 + k = 1899 + (k + 1) by omega]
  rw [show dB.getD 0 0 = 0 from rfl, if_neg (show ¬ (1 < 0 ∧ lpN (1900 + (k + 1)) = true) from fun w => absurd w.1 (by decide)), if_pos (show 1 < 12 * (k + 1) + 0 by omega)] at e1
  rw [show dB.getD 0 0 = 0 from rfl, if_neg (show ¬ (1 < 0 ∧ lpN (1900 + k) = true) from fun w => absurd w.1 (by decide))] at e2
  simp only [Nat.add_zero] at e1 e2
  by_cases z : k = 0
  · subst z
    decide
  · rw [if_pos (show 1 < 12 * k by omega)] at e2
    have : lpM (1899 + (k + 1)) = lpN (1899 + (k + 1)) := by
      unfold lpM
      rw [decide_eq_false (by omega), Bool.or_false]
    rw [this]
    by_cases w : lpN (1899 + (k + 1)) = true
    · rw [if_pos w] at e3 ⊢
      omega
    · rw [if_neg w] at e3 ⊢
      omega
theorem fs_1 (k j : Nat) (hj : j < 11) : fsN (12 * k + (j + 1)) = fsN (12 * k + j) + mlN (1900 + k) (j + 1) := by
  have e1 := fsN_eq k (j + 1) (by omega)
  have e2 := fsN_eq k j (by omega)
  have hd : dB.getD (j + 1) 0 = dB.getD j 0 + mlN 1901 (j + 1) := by
    have : ∀ q : Fin 11, dB.getD (q.val + 1) 0 = dB.getD q.val 0 + mlN 1901 (q.val + 1) := by decide
    exact this ⟨j, hj⟩
  have hm : j ≠ 1 → mlN (1900 + k) (j + 1) = mlN 1901 (j + 1) := fun w => by
    unfold mlN
    rw [if_neg (show ¬ j + 1 = 2 by omega), if_neg (show ¬ j + 1 = 2 by omega)]
  by_cases z1 : j = 1
  · subst z1
    have h28 : mlN 1901 (1 + 1) = 28 := by decide
    have hm2 : mlN (1900 + k) (1 + 1) = if lpM (1900 + k) = true then 29 else 28 := if_pos rfl
    rw [hd, h28] at e1
    rw [hm2]
    rw [if_neg (show ¬ (1 < 1 ∧ lpN (1900 + k) = true) from fun w => absurd w.1 (by decide))] at e2
    by_cases z : k = 0
    · subst z
      decide
    · rw [if_pos (show 1 < 12 * k + (1 + 1) by omega)] at e1
      rw [if_pos (show 1 < 12 * k + 1 by omega)] at e2
      have : lpM (1900 + k) = lpN (1900 + k) := by
        unfold lpM
        rw [decide_eq_false (by omega), Bool.or_false]
      rw [this]
      by_cases w : lpN (1900 + k) = true
      · rw [if_pos (show 1 < 1 + 1 ∧ lpN (1900 + k) = true from ⟨by decide, w⟩)] at e1
        rw [if_pos w]
        omega
      · rw [if_neg (show ¬ (1 < 1 + 1 ∧ lpN (1900 + k) = true) from fun q => w q.2)] at e1
        rw [if_neg w]
        omega
  · rw [hm z1]
    rw [hd] at e1
    by_cases w : lpN (1900 + k) = true
    · by_cases z0 : j = 0
      · subst z0
        rw [if_neg (show ¬ (1 < 0 + 1 ∧ lpN (1900 + k) = true) from fun q => absurd q.1 (by decide))] at e1
        rw [if_neg (show ¬ (1 < 0 ∧ lpN (1900 + k) = true) from fun q => absurd q.1 (by decide))] at e2
        split at e1 <;> split at e2 <;> omega
      · rw [if_pos (show 1 < j + 1 ∧ lpN (1900 + k) = true from ⟨by omega, w⟩), if_pos (show 1 < 12 * k + (j + 1) by omega)] at e1
        rw [if_pos (show 1 < j ∧ lpN (1900 + k) = true from ⟨by omega, w⟩), if_pos (show 1 < 12 * k + j by omega)] at e2
        omega
    · rw [if_neg (show ¬ (1 < j + 1 ∧ lpN (1900 + k) = true) from fun q => w q.2)] at e1
      rw [if_neg (show ¬ (1 < j ∧ lpN (1900 + k) = true) from fun q => w q.2)] at e2
      by_cases z0 : j = 0
      · subst z0
        split at e1 <;> split at e2 <;> omega
      · rw [if_pos (show 1 < 12 * k + (j + 1) by omega)] at e1
        rw [if_pos (show 1 < 12 * k + j by omega)] at e2
        omega
theorem fs_lt (m : Nat) : fsN m < fsN (m + 1) := by
  have e : m = 12 * (m / 12) + m % 12 := by omega
  have hj := Nat.mod_lt m (show 12 > 0 by decide)
  by_cases z : m % 12 < 11
  · have := fs_1 (m / 12) (m % 12) z
    have hb := mlN_b (1900 + m / 12) (m % 12 + 1)
    have e1 : m + 1 = 12 * (m / 12) + (m % 12 + 1) := by omega
    rw [e1, this, ← e]
    omega
  · have h11 : m % 12 = 11 := by omega
    have e1 : m + 1 = 12 * (m / 12 + 1) := by omega
    have e2 : m = 12 * (m / 12) + 11 := by omega
    have a := fsN_eq (m / 12) 11 (by decide)
    have b := fsN_eq (m / 12) 0 (by decide)
    have c := fs_12 (m / 12)
    rw [← e2] at a
    rw [← e1] at c
    simp only [Nat.add_zero] at b
    have d334 : dB.getD 11 0 = 334 := rfl
    have d0 : dB.getD 0 0 = 0 := rfl
    rw [d334] at a
    rw [d0] at b
    have x1 : (if 1 < 11 ∧ lpN (1900 + m / 12) = true then 1 else 0) ≤ 1 := by split <;> omega
    have x2 : (if 1 < m then 1 else 0) ≤ 1 := by split <;> omega
    have x3 : (if lpM (1900 + m / 12) = true then 366 else 365) ≥ 365 := by split <;> omega
    omega
theorem fs_mono {m q : Nat} (h : m ≤ q) : fsN m ≤ fsN q := by
  induction h with
  | refl => exact Nat.le_refl _
  | step _ ih => exact Nat.le_trans ih (Nat.le_of_lt (fs_lt _))
/-- the month that a day lies in -/
theorem sp_bs_0 (d m : Nat) : sp_bs d 0 m = m := rfl
theorem sp_bs_at (d : Nat) (k : Nat) : ∀ (m : Nat), (m = 0 ∨ fsN m ≤ d) → d < fsN (m + 2 ^ k) → (sp_bs d k m = 0 ∨ fsN (sp_bs d k m) ≤ d) ∧ d < fsN (sp_bs d k m + 1) := by
  induction k with
  | zero =>
    intro m a b
    rw [show (2 : Nat) ^ 0 = 1 from rfl] at b
    rw [sp_bs_0]
    exact ⟨a, b⟩
  | succ k ih =>
    intro m a b
    have e : 2 ^ (k + 1) = 2 ^ k + 2 ^ k := by rw [Nat.pow_succ]; omega
    rw [sp_bs]
    by_cases z : fsN (m + 2 ^ k) ≤ d
    · rw [if_pos z]
      exact ih _ (Or.inr z) (by rw [show m + 2 ^ k + 2 ^ k = m + 2 ^ (k + 1) by omega]; exact b)
    · rw [if_neg z]
      exact ih m a (by omega)
theorem sp_mo_at {d : Nat} (hd : d ≤ 2958465) {m : Nat} (a : m = 0 ∨ fsN m ≤ d) (b : d < fsN (m + 1)) : sp_mo d = m := by
  have hbig : d < fsN (0 + 2 ^ 17) := by
    have : fsN (0 + 2 ^ 17) > 2958465 := by decide
    omega
  obtain ⟨c1, c2⟩ := sp_bs_at d 17 0 (Or.inl rfl) hbig
  have c1' : sp_mo d = 0 ∨ fsN (sp_mo d) ≤ d := c1
  have c2' : d < fsN (sp_mo d + 1) := c2
  have n1 : ¬ sp_mo d < m := fun q => by
    have := fs_mono (show sp_mo d + 1 ≤ m from q)
    omega
  have n2 : ¬ m < sp_mo d := fun q => by
    have := fs_mono (show m + 1 ≤ sp_mo d from q)
    omega
  omega
section MCA
variable {h : gk_H} {S S0 S1 T : gv_S}
theorem m_leap (y : Nat) (hy : y < 1000000) (h : gk_H) : f_M_isLeap (gI y) h = some (gB (lpM y), h) := by
  unfold f_M_isLeap f_M_isLeap_b13 f_M_isLeap_b28 f_M_isLeap_b33 lpM lpN
  have z0 : ∀ (q : Nat), q < 1000000 → ∀ {β : Type} (x y : β), (if gI q = (0 : Int32) then x else y) = if q = 0 then x else y := fun q hq _ x y => ite_eq x y q 0 (by omega) (by decide)
  rw [nb0, nb1, gI_lit 4, gI_lit 100, gI_lit 400, gI_lit 1900, gI_mod _ _ (by omega) (by decide) (by decide), gI_mod _ _ (by omega) (by decide) (by decide), gI_mod _ _ (by omega) (by decide) (by decide), z0 _ (by omega), z0 _ (by omega), z0 _ (by omega), ite_eq _ _ _ _ (by omega) (by decide)]
  by_cases z19 : y = 1900
  · subst z19
    rfl
  · rw [if_neg z19, decide_eq_false z19, Bool.or_false]
    by_cases z4 : y % 4 = 0
    · rw [if_pos z4]
      by_cases z1 : y % 100 = 0
      · rw [if_pos z1]
        by_cases z3 : y % 400 = 0
        · rw [if_pos z3, decide_eq_true (show y % 4 = 0 ∧ (y % 100 ≠ 0 ∨ y % 400 = 0) from ⟨z4, Or.inr z3⟩)]
          rfl
        · rw [if_neg z3, decide_eq_false (show ¬ (y % 4 = 0 ∧ (y % 100 ≠ 0 ∨ y % 400 = 0)) from fun w => by omega)]
          rfl
      · rw [if_neg z1, decide_eq_true (show y % 4 = 0 ∧ (y % 100 ≠ 0 ∨ y % 400 = 0) from ⟨z4, Or.inl z1⟩)]
        rfl
    · rw [if_neg z4, if_neg (show ¬ y % 400 = 0 by omega), decide_eq_false (show ¬ (y % 4 = 0 ∧ (y % 100 ≠ 0 ∨ y % 400 = 0)) from fun w => z4 w.1)]
      rfl
theorem m_monthLong (y m : Nat) (hy : y < 1000000) (hm : m < 100) (h : gk_H) : f_M_monthLong (gI y) (gI m) h = some (gI (mlN y m), h) := by
  unfold f_M_monthLong f_M_monthLong_b45 f_M_monthLong_b52 mlN
  rw [m_leap y hy, gk_ca_some, ite_B, gI_lit 2, gI_lit 4, gI_lit 6, gI_lit 9, gI_lit 11, ite_eq _ _ _ _ (by omega) (by decide), ite_eq _ _ _ _ (by omega) (by decide), ite_eq _ _ _ _ (by omega) (by decide), ite_eq _ _ _ _ (by omega) (by decide), ite_eq _ _ _ _ (by omega) (by decide)]
  by_cases z2 : m = 2
  · rw [if_pos z2, if_pos z2]
    by_cases w : lpM y = true
    · rw [if_pos w, if_pos w]
      rfl
    · rw [if_neg w, if_neg w]
      rfl
  · rw [if_neg z2, if_neg z2]
    by_cases z4 : m = 4
    · rw [if_pos z4, if_pos (Or.inl z4)]
      rfl
    · rw [if_neg z4]
      by_cases z6 : m = 6
      · rw [if_pos z6, if_pos (Or.inr (Or.inl z6))]
        rfl
      · rw [if_neg z6]
        by_cases z9 : m = 9
        · rw [if_pos z9, if_pos (Or.inr (Or.inr (Or.inl z9)))]
          rfl
        · rw [if_neg z9]
          by_cases z11 : m = 11
          · rw [if_pos z11, if_pos (Or.inr (Or.inr (Or.inr z11)))]
            rfl
          · rw [if_neg z11, if_neg (by omega)]
            rfl
theorem m_firstOf (K j : Nat) (hK : K ≤ 49000) (hj : j < 12) (h : gk_H) : f_M_firstOf (gI (1900 + K)) (gI (j + 1)) h = some (gI (fsN (12 * K + j)), h) := by
  have l2 : ∀ (r i fu : Nat), i + r = j → r < fu → f_M_firstOf_b38 fu (gI (1900 + K)) (gI (j + 1)) (gI (fsN (12 * K + i))) (gI (i + 1)) h = some (gI (fsN (12 * K + j)), h) := by
    intro r
    induction r with
    | zero =>
      intro i fu hi hf
      obtain ⟨fu, rfl⟩ : ∃ g, fu = g + 1 := ⟨fu - 1, by omega⟩
      rw [f_M_firstOf_b38]
      dsimp only
      rw [ite_le _ _ _ _ (by omega) (by omega), if_pos (by omega), show i = j by omega]
    | succ r ih =>
      intro i fu hi hf
      obtain ⟨fu, rfl⟩ : ∃ g, fu = g + 1 := ⟨fu - 1, by omega⟩
      have := ih (i + 1) fu (by omega) (by omega)
      rw [fs_1 K i (by omega)] at this
      rw [f_M_firstOf_b38]
      dsimp only
      rw [ite_le _ _ _ _ (by omega) (by omega), if_neg (by omega), m_monthLong _ _ (by omega) (by omega), gk_ca_some, gI_add, gk_let_eq, show gI (i + 1) + (1 : Int32) = gI (i + 1 + 1) from gI_add _ 1, gk_let_eq]
      exact this
  have l1 : ∀ (r k fu : Nat), k + r = K → r < fu → f_M_firstOf_b6 fu (gI (1900 + K)) (gI (j + 1)) (gI (fsN (12 * k))) (gI (1900 + k)) h = some (gI (fsN (12 * K + j)), h) := by
    intro r
    induction r with
    | zero =>
      intro k fu hi hf
      obtain ⟨fu, rfl⟩ : ∃ g, fu = g + 1 := ⟨fu - 1, by omega⟩
      have := l2 j 0 gk_F (Nat.zero_add _) (by unfold gk_F; omega)
      rw [f_M_firstOf_b6]
      dsimp only
      rw [ite_le _ _ _ _ (by omega) (by omega), if_pos (by omega), show k = K by omega]
      exact this
    | succ r ih =>
      intro k fu hi hf
      obtain ⟨fu, rfl⟩ : ∃ g, fu = g + 1 := ⟨fu - 1, by omega⟩
      have := ih (k + 1) fu (by omega) (by omega)
      rw [fs_12 k] at this
      rw [f_M_firstOf_b6]
      unfold f_M_firstOf_b28
      dsimp only
      rw [ite_le _ _ _ _ (by omega) (by omega), if_neg (by omega), m_leap _ (by omega), gk_ca_some, ite_B, show gI (1900 + k) + (1 : Int32) = gI (1900 + (k + 1)) from gI_add _ 1, gI_lit 365, gI_lit 366, gI_add, gI_add]
      by_cases w : lpM (1900 + k) = true
      · rw [if_pos w] at this ⊢
        exact this
      · rw [if_neg w] at this ⊢
        exact this
  exact l1 K 0 gk_F (Nat.zero_add _) (by unfold gk_F; omega)
/-- the date of a day -/
def mDt (S T : gv_S) (d : Nat) : Prop := mX mSt S T ∧ T.1 30 11 = S.1 30 11 ∧ T.1 30 22 = gI (1900 + sp_mo d / 12) ∧ T.1 30 23 = gI (sp_mo d % 12 + 1) ∧ T.1 30 24 = gN ((d : Int) - fsN (sp_mo d) + 1)
theorem mSt_2 (b : Nat) (hb : 11 ≤ b) : mSt 30 b := Or.inl ⟨rfl, hb⟩
theorem m_findDate (d : Nat) (hd : d ≤ 2958465) : ∃ T, f_M_findDate (some 30) (gI d) (gv_ov h S) = some ((), gv_ov h T) ∧ mDt S T d := by
  have l2 : ∀ (K : Nat), K ≤ 10000 → d < fsN (12 * (K + 1)) → ∀ (r j fu q : Nat) (U : gv_S), j + r = 11 → r < fu → q + fsN (12 * K + j) = d + 1 → (1 ≤ q ∨ 12 * K + j = 0) → mX mSt S U → U.1 30 11 = S.1 30 11 → U.1 30 22 = gI (1900 + K) → U.1 30 23 = gI (j + 1) → ∃ T, f_M_findDate_b72 fu (some 30) (gI q) (gv_ov h U) = some ((), gv_ov h T) ∧ mDt S T d := by
    intro K hK hK2 r
    induction r with
    | zero =>
      intro j fu q U hj hf hq hq1 qU u11 u22 u23
      obtain ⟨fu, rfl⟩ : ∃ g, fu = g + 1 := ⟨fu - 1, by omega⟩
      have j11 : j = 11 := by omega
      subst j11
      have hm : sp_mo d = 12 * K + 11 := sp_mo_at hd (by omega) (by rw [show 12 * K + 11 + 1 = 12 * (K + 1) by omega]; exact hK2)
      have hq31 : q ≤ mlN (1900 + K) (11 + 1) := by
        have e31 : mlN (1900 + K) (11 + 1) = 31 := rfl
        have a := fsN_eq K 11 (by decide)
        have b := fsN_eq (K + 1) 0 (by decide)
        have c := ly_step (1899 + K)
        rw [show 1899 + K + 1 = 1899 + (K + 1) from rfl] at c
        rw [show dB.getD 11 0 = 334 from rfl, if_pos (show 1 < 12 * K + 11 by omega), show 1900 + K = 1899 + (K + 1) by omega] at a
        rw [show dB.getD 0 0 = 0 from rfl, if_pos (show 1 < 12 * (K + 1) + 0 by omega), if_neg (show ¬ (1 < 0 ∧ lpN (1900 + (K + 1)) = true) from fun w => absurd w.1 (by decide))] at b
        simp only [Nat.add_zero] at b
        by_cases w : lpN (1899 + (K + 1)) = true
        · rw [if_pos w] at c
          rw [if_pos (show 1 < 11 ∧ lpN (1899 + (K + 1)) = true from ⟨by decide, w⟩)] at a
          omega
        · rw [if_neg w] at c
          rw [if_neg (show ¬ (1 < 11 ∧ lpN (1899 + (K + 1)) = true) from fun q => w q.2)] at a
          omega
      have hb := mlN_b (1900 + K) (11 + 1)
      rw [f_M_findDate_b72]
      dsimp only
      rw [gg_30_22, gg_30_23, u22, u23, m_monthLong _ _ (by omega) (by omega), gk_ca_some, ite_le _ _ _ _ (by omega) (by omega), if_pos hq31, gs_30_24]
      refine ⟨_, rfl, qU.trans (mX.I _ (mSt_2 24 (by decide))), ?_, ?_, ?_, ?_⟩
      · rw [gu_I1 _ _ _ _ _ _ (by decide)]
        exact u11
      · rw [gu_I1 _ _ _ _ _ _ (by decide), u22, hm]
        congr 1
        omega
      · rw [gu_I1 _ _ _ _ _ _ (by decide), u23, hm]
        congr 1
        omega
      · rw [gu_I2, hm, gI_N]
        congr 1
        omega
    | succ r ih =>
      intro j fu q U hj hf hq hq1 qU u11 u22 u23
      obtain ⟨fu, rfl⟩ : ∃ g, fu = g + 1 := ⟨fu - 1, by omega⟩
      have hb := mlN_b (1900 + K) (j + 1)
      have hs := fs_1 K j (by omega)
      rw [f_M_findDate_b72]
      dsimp only
      rw [gg_30_22, gg_30_23, u22, u23, m_monthLong _ _ (by omega) (by omega), gk_ca_some, ite_le _ _ _ _ (by omega) (by omega)]
      by_cases z : q ≤ mlN (1900 + K) (j + 1)
      · have hm : sp_mo d = 12 * K + j := sp_mo_at hd (by omega) (by rw [show 12 * K + j + 1 = 12 * K + (j + 1) from rfl, hs]; omega)
        rw [if_pos z, gs_30_24]
        refine ⟨_, rfl, qU.trans (mX.I _ (mSt_2 24 (by decide))), ?_, ?_, ?_, ?_⟩
        · rw [gu_I1 _ _ _ _ _ _ (by decide)]
          exact u11
        · rw [gu_I1 _ _ _ _ _ _ (by decide), u22, hm]
          congr 1
          omega
        · rw [gu_I1 _ _ _ _ _ _ (by decide), u23, hm]
          congr 1
          omega
        · rw [gu_I2, hm, gI_N]
          congr 1
          omega
      · rw [if_neg z, gg_30_22, gg_30_23, u22, u23, m_monthLong _ _ (by omega) (by omega), gk_ca_some, gI_sub _ _ (by omega), gk_let_eq, gg_30_23, u23, show gI (j + 1) + (1 : Int32) = gI (j + 1 + 1) from gI_add _ 1, gs_30_23]
        refine ih (j + 1) fu (q - mlN (1900 + K) (j + 1)) _ (by omega) (by omega) (by omega) (by omega) (qU.trans (mX.I _ (mSt_2 23 (by decide)))) ?_ ?_ (gu_I2 _ _ _ _)
        · rw [gu_I1 _ _ _ _ _ _ (by decide)]
          exact u11
        · rw [gu_I1 _ _ _ _ _ _ (by decide)]
          exact u22
  have l1 : ∀ (r k fu q : Nat) (U : gv_S), k + r = 9000 → r < fu → q + fsN (12 * k) = d + 1 → (1 ≤ q ∨ k = 0) → mX mSt S U → U.1 30 11 = S.1 30 11 → U.1 30 22 = gI (1900 + k) → U.1 30 23 = gI 1 → ∃ T, f_M_findDate_b14 fu (some 30) (gI q) (gv_ov h U) = some ((), gv_ov h T) ∧ mDt S T d := by
    intro r
    induction r with
    | zero =>
      intro k fu q U hk hf hq hq1 _ _ _ _
      have : fsN (12 * 9000) > 2958466 := by decide
      rw [show k = 9000 by omega] at hq
      omega
    | succ r ih =>
      intro k fu q U hk hf hq hq1 qU u11 u22 u23
      obtain ⟨fu, rfl⟩ : ∃ g, fu = g + 1 := ⟨fu - 1, by omega⟩
      have hs := fs_12 k
      rw [f_M_findDate_b14]
      dsimp only
      rw [gg_30_22, u22, m_leap _ (by omega), gk_ca_some, ite_B, gI_lit 365, gI_lit 366]
      have b34 : ∀ w : Nat, (w = if lpM (1900 + k) = true then 366 else 365) → ∃ T, f_M_findDate_b34 (f_M_findDate_b14 fu) (some 30) (gI q) (gI q) (gI w) (gv_ov h U) = some ((), gv_ov h T) ∧ mDt S T d := by
        intro w hw
        have hw6 : w ≤ 366 := by
          rw [hw]
          split <;> omega
        rw [← hw] at hs
        unfold f_M_findDate_b34
        rw [ite_le _ _ _ _ (by omega) (by omega)]
        by_cases z : q ≤ w
        · rw [if_pos z]
          exact l2 k (by omega) (by omega) 11 0 gk_F q U (by omega) (by unfold gk_F; omega) (by rw [Nat.add_zero]; exact hq) (by omega) qU u11 u22 u23
        · rw [if_neg z, gg_30_22, u22, m_leap _ (by omega), gk_ca_some, ite_B, gI_lit 365, gI_lit 366]
          have fin : ∃ T, f_M_findDate_b57 (f_M_findDate_b14 fu) (some 30) (gI q) (gI w) (gv_ov h U) = some ((), gv_ov h T) ∧ mDt S T d := by
            unfold f_M_findDate_b57
            rw [gI_sub _ _ (by omega), gk_let_eq, gg_30_22, u22, show gI (1900 + k) + (1 : Int32) = gI (1900 + (k + 1)) from gI_add _ 1, gs_30_22]
            refine ih (k + 1) fu (q - w) _ (by omega) (by omega) (by omega) (by omega) (qU.trans (mX.I _ (mSt_2 22 (by decide)))) ?_ (gu_I2 _ _ _ _) ?_
            · rw [gu_I1 _ _ _ _ _ _ (by decide)]
              exact u11
            · rw [gu_I1 _ _ _ _ _ _ (by decide)]
              exact u23
          by_cases y : lpM (1900 + k) = true
          · rw [if_pos y] at hw ⊢
            rw [← hw]
            exact fin
          · rw [if_neg y] at hw ⊢
            rw [← hw]
            exact fin
      by_cases y : lpM (1900 + k) = true
      · rw [if_pos y]
        exact b34 366 (by rw [if_pos y])
      · rw [if_neg y]
        exact b34 365 (by rw [if_neg y])
  unfold f_M_findDate
  rw [gs_30_22, gs_30_23]
  refine l1 9000 0 gk_F d _ (Nat.zero_add _) (by unfold gk_F; omega) (by rw [show fsN (12 * 0) = 1 from rfl]) (Or.inr rfl) ((mX.I _ (mSt_2 22 (by decide))).trans (mX.I _ (mSt_2 23 (by decide)))) ?_ ?_ (gu_I2 _ _ _ _)
  · rw [gu_I1 _ _ _ _ _ _ (by decide), gu_I1 _ _ _ _ _ _ (by decide)]
  · rw [gu_I1 _ _ _ _ _ _ (by decide)]
    exact gu_I2 _ _ _ _
end MCA
