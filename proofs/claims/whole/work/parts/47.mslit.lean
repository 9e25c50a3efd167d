/-! SLIT, as numbers: ways to fill a width, their prices -/
def wyN (w0 w1 w2 j n0 n1 n2 : Nat) : Prop := n0 * w0 + n1 * w1 + n2 * w2 = j ∧ (w0 = 0 → n0 = 0) ∧ (w1 = 0 → n1 = 0) ∧ (w2 = 0 → n2 = 0)
def prN (n0 n1 n2 : Nat) : Nat := n0 * 4192256 + n1 * 4194303 + n2 * 4194304
theorem pT_st (w0 w1 w2 : Nat) : ∀ n j, j ≤ n → pT w0 w1 w2 n j = pT w0 w1 w2 j j
  | 0, j, h => by
    obtain rfl : j = 0 := by omega
    rfl
  | n + 1, j, h => by
    by_cases he : j = n + 1
    · subst he; rfl
    · rw [← pT_st w0 w1 w2 n j (by omega)]
      show (if j = n + 1 then _ else _) = _
      rw [if_neg he]
theorem pT_0 (w0 w1 w2 : Nat) : pT w0 w1 w2 0 0 = some 0 := rfl
theorem pT_S (w0 w1 w2 n : Nat) : pT w0 w1 w2 (n + 1) (n + 1) = olt (olt (pw (pT w0 w1 w2 n) (n + 1) w0 4192256) (pw (pT w0 w1 w2 n) (n + 1) w1 4194303)) (pw (pT w0 w1 w2 n) (n + 1) w2 4194304) := if_pos rfl
theorem olt_some {a b : Option Nat} {x : Nat} (h : olt a b = some x) : a = some x ∨ b = some x := by
  cases a with
  | none => exact Or.inr (by cases b <;> exact h)
  | some y =>
    cases b with
    | none => exact Or.inl h
    | some z =>
      replace h : (if z < y then some z else some y) = some x := h
      split at h
      · exact Or.inr h
      · exact Or.inl h
theorem olt_l {a b : Option Nat} {y : Nat} (h : a = some y) : ∃ x, olt a b = some x ∧ x ≤ y := by
  subst h
  cases b with
  | none => exact ⟨y, rfl, Nat.le_refl _⟩
  | some z =>
    show ∃ x, (if z < y then some z else some y) = some x ∧ x ≤ y
    split
    · exact ⟨z, rfl, by omega⟩
    · exact ⟨y, rfl, Nat.le_refl _⟩
theorem olt_r {a b : Option Nat} {y : Nat} (h : b = some y) : ∃ x, olt a b = some x ∧ x ≤ y := by
  subst h
  cases a with
  | none => exact ⟨y, rfl, Nat.le_refl _⟩
  | some z =>
    show ∃ x, (if y < z then some y else some z) = some x ∧ x ≤ y
    split
    · exact ⟨y, rfl, Nat.le_refl _⟩
    · exact ⟨z, rfl, by omega⟩
theorem pw_some {P : Nat → Option Nat} {u s pr x : Nat} (h : pw P u s pr = some x) : s ≠ 0 ∧ s ≤ u ∧ ∃ y, P (u - s) = some y ∧ x = y + pr := by
  unfold pw at h
  split at h
  · cases h
  · rename_i hn
    cases hP : P (u - s) with
    | none => rw [hP] at h; cases h
    | some y => rw [hP] at h; cases h; exact ⟨by omega, by omega, y, rfl, rfl⟩
theorem pw_of {P : Nat → Option Nat} {u s pr y : Nat} (h0 : s ≠ 0) (h1 : s ≤ u) (h : P (u - s) = some y) : pw P u s pr = some (y + pr) := by
  unfold pw
  rw [if_neg (by omega), h]
  rfl
theorem pT_way (w0 w1 w2 : Nat) (j : Nat) : ∀ x, pT w0 w1 w2 j j = some x → ∃ n0 n1 n2, wyN w0 w1 w2 j n0 n1 n2 ∧ x = prN n0 n1 n2 := by
  induction j using Nat.strongRecOn with
  | _ j ih =>
    intro x hx
    cases j with
    | zero =>
      cases hx
      exact ⟨0, 0, 0, ⟨by simp, fun _ => rfl, fun _ => rfl, fun _ => rfl⟩, rfl⟩
    | succ n =>
      rw [pT_S] at hx
      rcases olt_some hx with hx | hx
      · rcases olt_some hx with hx | hx
        · obtain ⟨h0, h1, y, hy, rfl⟩ := pw_some hx
          rw [pT_st _ _ _ _ _ (by omega)] at hy
          obtain ⟨n0, n1, n2, ⟨e, g0, g1, g2⟩, rfl⟩ := ih (n + 1 - w0) (by omega) y hy
          refine ⟨n0 + 1, n1, n2, ⟨?_, fun h => absurd h h0, g1, g2⟩, ?_⟩
          · rw [Nat.succ_mul]; omega
          · unfold prN; omega
        · obtain ⟨h0, h1, y, hy, rfl⟩ := pw_some hx
          rw [pT_st _ _ _ _ _ (by omega)] at hy
          obtain ⟨n0, n1, n2, ⟨e, g0, g1, g2⟩, rfl⟩ := ih (n + 1 - w1) (by omega) y hy
          refine ⟨n0, n1 + 1, n2, ⟨?_, g0, fun h => absurd h h0, g2⟩, ?_⟩
          · rw [Nat.succ_mul]; omega
          · unfold prN; omega
      · obtain ⟨h0, h1, y, hy, rfl⟩ := pw_some hx
        rw [pT_st _ _ _ _ _ (by omega)] at hy
        obtain ⟨n0, n1, n2, ⟨e, g0, g1, g2⟩, rfl⟩ := ih (n + 1 - w2) (by omega) y hy
        refine ⟨n0, n1, n2 + 1, ⟨?_, g0, g1, fun h => absurd h h0⟩, ?_⟩
        · rw [Nat.succ_mul]; omega
        · unfold prN; omega
theorem pT_min (w0 w1 w2 : Nat) (j : Nat) : ∀ n0 n1 n2, wyN w0 w1 w2 j n0 n1 n2 → ∃ x, pT w0 w1 w2 j j = some x ∧ x ≤ prN n0 n1 n2 := by
  induction j using Nat.strongRecOn with
  | _ j ih =>
    intro n0 n1 n2 ⟨e, g0, g1, g2⟩
    cases j with
    | zero => exact ⟨0, rfl, Nat.zero_le _⟩
    | succ n =>
      rw [pT_S]
      by_cases c0 : n0 = 0
      · by_cases c1 : n1 = 0
        · have c2 : n2 ≠ 0 := fun h => by rw [c0, c1, h] at e; simp at e
          obtain ⟨k, rfl⟩ : ∃ k, n2 = k + 1 := ⟨n2 - 1, by omega⟩
          have hw : w2 ≠ 0 := fun h => c2 (g2 h)
          rw [Nat.succ_mul] at e
          obtain ⟨y, hy, hle⟩ := ih (n + 1 - w2) (by omega) n0 n1 k ⟨by omega, g0, g1, fun h => absurd h hw⟩
          rw [← pT_st _ _ _ n _ (by omega)] at hy
          obtain ⟨x, hx, hl⟩ := olt_r (a := olt (pw (pT w0 w1 w2 n) (n + 1) w0 4192256) (pw (pT w0 w1 w2 n) (n + 1) w1 4194303)) (pw_of (pr := 4194304) hw (by omega) hy)
          exact ⟨x, hx, by unfold prN at hle ⊢; omega⟩
        · obtain ⟨k, rfl⟩ : ∃ k, n1 = k + 1 := ⟨n1 - 1, by omega⟩
          have hw : w1 ≠ 0 := fun h => c1 (g1 h)
          rw [Nat.succ_mul] at e
          obtain ⟨y, hy, hle⟩ := ih (n + 1 - w1) (by omega) n0 k n2 ⟨by omega, g0, fun h => absurd h hw, g2⟩
          rw [← pT_st _ _ _ n _ (by omega)] at hy
          obtain ⟨z, hz, hzl⟩ := olt_r (a := pw (pT w0 w1 w2 n) (n + 1) w0 4192256) (pw_of (pr := 4194303) hw (by omega) hy)
          obtain ⟨x, hx, hl⟩ := olt_l (b := pw (pT w0 w1 w2 n) (n + 1) w2 4194304) hz
          exact ⟨x, hx, by unfold prN at hle ⊢; omega⟩
      · obtain ⟨k, rfl⟩ : ∃ k, n0 = k + 1 := ⟨n0 - 1, by omega⟩
        have hw : w0 ≠ 0 := fun h => c0 (g0 h)
        rw [Nat.succ_mul] at e
        obtain ⟨y, hy, hle⟩ := ih (n + 1 - w0) (by omega) k n1 n2 ⟨by omega, fun h => absurd h hw, g1, g2⟩
        rw [← pT_st _ _ _ n _ (by omega)] at hy
        obtain ⟨z, hz, hzl⟩ := olt_l (b := pw (pT w0 w1 w2 n) (n + 1) w1 4194303) (pw_of (pr := 4192256) hw (by omega) hy)
        obtain ⟨x, hx, hl⟩ := olt_l (b := pw (pT w0 w1 w2 n) (n + 1) w2 4194304) hz
        exact ⟨x, hx, by unfold prN at hle ⊢; omega⟩
/-- the way that is asked for: the fewest strips, then the most of w0, then of w1 -/
def bstW (w0 w1 w2 j n0 n1 n2 : Nat) : Prop := wyN w0 w1 w2 j n0 n1 n2 ∧ ∀ m0 m1 m2, wyN w0 w1 w2 j m0 m1 m2 → n0 + n1 + n2 < m0 + m1 + m2 ∨ (n0 + n1 + n2 = m0 + m1 + m2 ∧ (m0 < n0 ∨ (m0 = n0 ∧ m1 ≤ n1)))
theorem bstW_one {w0 w1 w2 j n0 n1 n2 m0 m1 m2 : Nat} (h : bstW w0 w1 w2 j n0 n1 n2) (g : bstW w0 w1 w2 j m0 m1 m2) : n0 = m0 ∧ n1 = m1 ∧ n2 = m2 := by
  have a := h.2 _ _ _ g.1
  have b := g.2 _ _ _ h.1
  omega
theorem wyN_le {w0 w1 w2 j n0 n1 n2 : Nat} (h : wyN w0 w1 w2 j n0 n1 n2) : n0 ≤ j ∧ n1 ≤ j ∧ n2 ≤ j := by
  obtain ⟨e, g0, g1, g2⟩ := h
  have f : ∀ n w : Nat, (w = 0 → n = 0) → n ≤ n * w := fun n w g => by
    rcases Nat.eq_zero_or_pos w with z | z
    · rw [g z]; simp
    · exact Nat.le_mul_of_pos_right n z
  have a := f n0 w0 g0
  have b := f n1 w1 g1
  have c := f n2 w2 g2
  omega
theorem pT_best {w0 w1 w2 j x : Nat} (hj : j ≤ 2000) (h : pT w0 w1 w2 j j = some x) : ∃ n0 n1 n2, bstW w0 w1 w2 j n0 n1 n2 ∧ x = prN n0 n1 n2 ∧ n0 ≤ 2000 ∧ n1 ≤ 2000 ∧ n2 ≤ 2000 := by
  obtain ⟨n0, n1, n2, hw, rfl⟩ := pT_way _ _ _ _ _ h
  have hl := wyN_le hw
  refine ⟨n0, n1, n2, ⟨hw, fun m0 m1 m2 hm => ?_⟩, rfl, by omega, by omega, by omega⟩
  have hl2 := wyN_le hm
  obtain ⟨y, hy, hle⟩ := pT_min _ _ _ _ _ _ _ hm
  rw [h] at hy
  cases hy
  unfold prN at hle
  omega
