/-! PLAN, as numbers: rows of stations, subsets, what the tables hold -/
def rowV (f : Nat → Nat) : Nat → Nat
  | 0 => 0
  | p + 1 => rowV f p * 16 + f p
theorem rowV_cong {f g : Nat → Nat} : ∀ m, (∀ p, p < m → f p = g p) → rowV f m = rowV g m
  | 0, _ => rfl
  | m + 1, h => by
    show rowV f m * 16 + f m = rowV g m * 16 + g m
    rw [rowV_cong m (fun p hp => h p (by omega)), h m (by omega)]
theorem rowV_add (f g : Nat → Nat) (k : Nat) : ∀ m, rowV (fun p => f p + k * g p) m = rowV f m + k * rowV g m
  | 0 => rfl
  | m + 1 => by
    have ih := rowV_add f g k m
    show rowV (fun p => f p + k * g p) m * 16 + (f m + k * g m) = rowV f m * 16 + f m + k * (rowV g m * 16 + g m)
    rw [ih]
    generalize rowV f m = x
    generalize rowV g m = y
    rw [Nat.mul_add, ← Nat.mul_assoc]
    omega
theorem rowV_zero : ∀ m, rowV (fun _ => 0) m = 0
  | 0 => rfl
  | m + 1 => by
    show rowV (fun _ => 0) m * 16 + 0 = 0
    rw [rowV_zero m]
theorem rowV_mono {f g : Nat → Nat} : ∀ m, (∀ p, p < m → f p ≤ g p) → rowV f m ≤ rowV g m
  | 0, _ => Nat.le_refl _
  | m + 1, h => by
    have := rowV_mono m (fun p hp => h p (by omega))
    have := h m (by omega)
    show rowV f m * 16 + f m ≤ rowV g m * 16 + g m
    omega
theorem bit_if (s p : Nat) : s / 2 ^ p % 2 = if s.testBit p = true then 1 else 0 := by
  rw [Nat.testBit_eq_decide_div_mod_eq]
  by_cases h : s / 2 ^ p % 2 = 1
  · rw [h]; simp
  · have h0 : s / 2 ^ p % 2 = 0 := by omega
    rw [h0]; simp
theorem dgN_row (s : Nat) : ∀ m, dgN s m = rowV (fun p => if s.testBit p = true then 1 else 0) m
  | 0 => rfl
  | m + 1 => by
    have ih := dgN_row s m
    show dgN s m * 2 ^ 4 ||| s / 2 ^ m % 2 = rowV _ m * 16 + (if s.testBit m = true then 1 else 0)
    have h2 : s / 2 ^ m % 2 < 2 ^ 4 := Nat.lt_of_lt_of_le (Nat.mod_lt _ (by decide)) (by decide)
    rw [Nat.mul_comm (dgN s m), ← Nat.two_pow_add_eq_or_of_lt h2, bit_if, ih, Nat.mul_comm]
def lexP (f g : Nat → Nat) (m : Nat) : Prop := ∀ r, r < m → (∀ q, q < r → g q = f q) → f r ≤ g r
theorem lexP_row {f g : Nat → Nat} : ∀ m, (∀ p, p < m → f p < 16) → lexP f g m → ((∀ q, q < m → g q = f q) ∨ rowV f m < rowV g m)
  | 0, _, _ => Or.inl (fun q hq => by omega)
  | m + 1, hf, hl => by
    rcases lexP_row m (fun p hp => hf p (by omega)) (fun r hr h => hl r (by omega) h) with h | h
    · have h1 := hl m (by omega) h
      by_cases e : g m = f m
      · refine Or.inl (fun q hq => ?_)
        by_cases e2 : q = m
        · subst e2; exact e
        · exact h q (by omega)
      · right
        show rowV f m * 16 + f m < rowV g m * 16 + g m
        rw [rowV_cong m h]
        omega
    · right
      have := hf m (by omega)
      show rowV f m * 16 + f m < rowV g m * 16 + g m
      omega
theorem lexP_le {f g : Nat → Nat} {m : Nat} (hf : ∀ p, p < m → f p < 16) (h : lexP f g m) : rowV f m ≤ rowV g m := by
  rcases lexP_row m hf h with h | h
  · exact Nat.le_of_eq (rowV_cong m (fun p hp => (h p hp).symm))
  · omega
theorem rowV_dig (f : Nat → Nat) : ∀ m p, (∀ p, p < m → f p < 16) → p < m → rowV f m / 16 ^ (m - 1 - p) % 16 = f p
  | 0, p, _, h => by omega
  | m + 1, p, hf, hp => by
    have hm := hf m (by omega)
    by_cases e : p = m
    · subst e
      rw [show p + 1 - 1 - p = 0 by omega, Nat.pow_zero, Nat.div_one]
      show (rowV f p * 16 + f p) % 16 = f p
      omega
    · rw [show m + 1 - 1 - p = (m - 1 - p) + 1 by omega, Nat.pow_succ, Nat.mul_comm, ← Nat.div_div_eq_div_mul]
      show (rowV f m * 16 + f m) / 16 / _ % 16 = f p
      rw [show (rowV f m * 16 + f m) / 16 = rowV f m by omega]
      exact rowV_dig f m p (fun p hp => hf p (by omega)) (by omega)
theorem rowV_lt (f : Nat → Nat) : ∀ m, (∀ p, p < m → f p < 16) → rowV f m < 16 ^ m
  | 0, _ => by simp [rowV]
  | m + 1, hf => by
    have h1 := rowV_lt f m (fun p hp => hf p (by omega))
    have h2 := hf m (by omega)
    rw [Nat.pow_succ]
    show rowV f m * 16 + f m < _
    omega
/-! subsets -/
theorem and2 (x y : Nat) : x &&& y = 2 * (x / 2 &&& y / 2) + (x % 2) * (y % 2) := by
  have h1 : (x &&& y) / 2 = x / 2 &&& y / 2 := Nat.and_div_two
  have h2 : (x &&& y) % 2 ^ 1 = x % 2 ^ 1 &&& y % 2 ^ 1 := Nat.and_mod_two_pow
  rw [← h1]
  have h3 : x % 2 &&& y % 2 = (x % 2) * (y % 2) := by
    rcases Nat.mod_two_eq_zero_or_one x with a | a <;> rcases Nat.mod_two_eq_zero_or_one y with b | b <;> rw [a, b] <;> decide
  rw [← h3]
  have h4 : (x &&& y) % 2 = x % 2 &&& y % 2 := h2
  omega
/-- the subset of r that comes below i is the greatest below it -/
theorem sub_next (r : Nat) : ∀ i j, i &&& r = i → j &&& r = j → j < i → j ≤ (i - 1) &&& r := by
  induction r using Nat.strongRecOn with
  | _ r ih =>
    intro i j hi hj hlt
    by_cases hr : r = 0
    · subst hr
      rw [Nat.and_zero] at hi
      omega
    · have ai := and2 i r
      have aj := and2 j r
      rw [hi] at ai
      rw [hj] at aj
      have hr2 := Nat.mod_two_eq_zero_or_one r
      have hi2 := Nat.mod_two_eq_zero_or_one i
      have hj2 := Nat.mod_two_eq_zero_or_one j
      have bi : i / 2 &&& r / 2 = i / 2 := by
        rcases hi2 with a | a <;> rcases hr2 with b | b <;> rw [a, b] at ai <;> omega
      have bj : j / 2 &&& r / 2 = j / 2 := by
        rcases hj2 with a | a <;> rcases hr2 with b | b <;> rw [a, b] at aj <;> omega
      have ak := and2 (i - 1) r
      rcases hi2 with a | a
      · have e1 : (i - 1) / 2 = i / 2 - 1 := by omega
        have e2 : (i - 1) % 2 = 1 := by omega
        rw [e1, e2, Nat.one_mul] at ak
        have := ih (r / 2) (by omega) (i / 2) (j / 2) bi bj (by omega)
        have : j % 2 ≤ r % 2 := by
          rcases hj2 with c | c <;> rcases hr2 with b | b <;> rw [c, b] at aj <;> omega
        omega
      · have e1 : (i - 1) / 2 = i / 2 := by omega
        have e2 : (i - 1) % 2 = 0 := by omega
        rw [e1, e2, Nat.zero_mul, bi] at ak
        omega
theorem sub_bit {i r p : Nat} (h : i &&& r = i) (hp : i.testBit p = true) : r.testBit p = true := by
  rw [← h, Nat.testBit_and, Bool.and_eq_true] at hp
  exact hp.2
theorem sub_of {i r : Nat} (h : ∀ p, i.testBit p = true → r.testBit p = true) : i &&& r = i := by
  apply Nat.eq_of_testBit_eq
  intro p
  rw [Nat.testBit_and]
  cases hi : i.testBit p with
  | false => rfl
  | true => rw [h p hi]; rfl
theorem ex_bit {x : Nat} (h : x ≠ 0) : ∃ p, x.testBit p = true := by
  apply Classical.byContradiction
  intro hn
  apply h
  apply Nat.eq_of_testBit_eq
  intro p
  rw [Nat.zero_testBit]
  cases hx : x.testBit p with
  | false => rfl
  | true => exact absurd ⟨p, hx⟩ hn
theorem bit_lt {x m p : Nat} (h : x < 2 ^ m) (hp : x.testBit p = true) : p < m := by
  rcases Nat.lt_or_ge p m with h1 | h1
  · exact h1
  · rw [Nat.testBit_lt_two_pow (Nat.lt_of_lt_of_le h (Nat.pow_le_pow_right (by decide) h1))] at hp
    cases hp
theorem tb_add {p t : Nat} (ht : t < 2 ^ p) (a : Nat) : (2 ^ p + t).testBit a = (decide (p = a) || t.testBit a) := by
  have h : 2 ^ p + t = 2 ^ p ||| t := by
    have := Nat.two_pow_add_eq_or_of_lt ht 1
    rw [Nat.mul_one] at this
    exact this
  rw [h, Nat.testBit_or, Nat.testBit_two_pow]
def mskN (P : Nat → Bool) : Nat → Nat
  | 0 => 0
  | p + 1 => if P p = true then mskN P p ||| 2 ^ p else mskN P p
theorem mskN_bit (P : Nat → Bool) (a : Nat) : ∀ m, (mskN P m).testBit a = (decide (a < m) && P a)
  | 0 => by simp [mskN]
  | m + 1 => by
    have ih := mskN_bit P a m
    unfold mskN
    split
    · rename_i h
      rw [Nat.testBit_or, Nat.testBit_two_pow, ih]
      by_cases e : m = a
      · subst e; simp [h]
      · have : (a < m + 1) = (a < m) := by apply propext; omega
        simp [e, this]
    · rename_i h
      rw [ih]
      by_cases e : m = a
      · subst e; simp [h]
      · have : (a < m + 1) = (a < m) := by apply propext; omega
        simp [this]
theorem mskN_lt (P : Nat → Bool) : ∀ m, mskN P m < 2 ^ m
  | 0 => by simp [mskN]
  | m + 1 => by
    have ih := mskN_lt P m
    have h2 : 2 ^ m < 2 ^ (m + 1) := Nat.pow_lt_pow_right (by decide) (by omega)
    unfold mskN
    split
    · exact Nat.or_lt_two_pow (by omega) h2
    · omega
theorem full_bit {m : Nat} (a : Nat) : (2 ^ m - 1).testBit a = decide (a < m) := Nat.testBit_two_pow_sub_one m a
/-! what the tables hold -/
theorem jT_spec (F : Nat → Nat) (all : Nat) : ∀ p s v, s < 2 ^ p → jT F all p s = some v → (∀ a b, s.testBit a = true → s.testBit b = true → a < b → (F a).testBit b = true) ∧ ∀ q, v.testBit q = true ↔ (all.testBit q = true ∧ ∀ a, s.testBit a = true → (F a).testBit q = true)
  | 0, s, v, hs, h => by
    obtain rfl : s = 0 := by simp at hs; exact hs
    cases h
    refine ⟨fun a b h => ?_, fun q => ⟨fun h => ⟨h, fun a h => ?_⟩, fun h => h.1⟩⟩
    · rw [Nat.zero_testBit] at h; cases h
    · rw [Nat.zero_testBit] at h; cases h
  | p + 1, s, v, hs, h => by
    by_cases hsp : s < 2 ^ p
    · rw [jT_old _ _ _ _ hsp] at h
      exact jT_spec F all p s v hsp h
    · obtain ⟨t, rfl⟩ : ∃ t, s = 2 ^ p + t := ⟨s - 2 ^ p, by omega⟩
      have ht : t < 2 ^ p := by rw [Nat.pow_succ] at hs; omega
      rw [jT_new] at h
      unfold jnew at h
      cases hw : jT F all p t with
      | none => rw [hw] at h; cases h
      | some w =>
        rw [hw] at h
        replace h : (if w.testBit p = true then some (w &&& F p) else none) = some v := h
        split at h
        · rename_i hwp
          cases h
          obtain ⟨h1, h2⟩ := jT_spec F all p t w ht hw
          have h3 := (h2 p).mp hwp
          refine ⟨fun a b ha hb hab => ?_, fun q => ?_⟩
          · rw [tb_add ht, Bool.or_eq_true, decide_eq_true_iff] at ha hb
            rcases hb with rfl | hb
            · rcases ha with ha | ha
              · omega
              · exact h3.2 a ha
            · have := bit_lt ht hb
              rcases ha with rfl | ha
              · omega
              · exact h1 a b ha hb hab
          · rw [Nat.testBit_and, Bool.and_eq_true, h2 q]
            constructor
            · rintro ⟨⟨g1, g2⟩, g3⟩
              refine ⟨g1, fun a ha => ?_⟩
              rw [tb_add ht, Bool.or_eq_true, decide_eq_true_iff] at ha
              rcases ha with rfl | ha
              · exact g3
              · exact g2 a ha
            · rintro ⟨g1, g2⟩
              exact ⟨⟨g1, fun a ha => g2 a (by rw [tb_add ht, ha, Bool.or_true])⟩, g2 p (by rw [tb_add ht, decide_eq_true rfl, Bool.true_or])⟩
        · cases h
theorem jT_ex (F : Nat → Nat) (n : Nat) : ∀ p s, p ≤ n → s < 2 ^ p → (∀ a b, s.testBit a = true → s.testBit b = true → a < b → (F a).testBit b = true) → ∃ v, jT F (2 ^ n - 1) p s = some v
  | 0, _, _, _, _ => ⟨_, rfl⟩
  | p + 1, s, hp, hs, hpw => by
    by_cases hsp : s < 2 ^ p
    · rw [jT_old _ _ _ _ hsp]
      exact jT_ex F n p s (by omega) hsp hpw
    · obtain ⟨t, rfl⟩ : ∃ t, s = 2 ^ p + t := ⟨s - 2 ^ p, by omega⟩
      have ht : t < 2 ^ p := by rw [Nat.pow_succ] at hs; omega
      obtain ⟨w, hw⟩ := jT_ex F n p t (by omega) ht (fun a b ha hb hab => hpw a b (by rw [tb_add ht, ha, Bool.or_true]) (by rw [tb_add ht, hb, Bool.or_true]) hab)
      have hwp : w.testBit p = true := ((jT_spec F _ p t w ht hw).2 p).mpr ⟨by rw [full_bit]; exact decide_eq_true (by omega), fun a ha => hpw a p (by rw [tb_add ht, ha, Bool.or_true]) (by rw [tb_add ht, decide_eq_true rfl, Bool.true_or]) (bit_lt ht ha)⟩
      rw [jT_new]
      unfold jnew
      rw [hw]
      exact ⟨w &&& F p, if_pos hwp⟩
theorem rdN_bit (B : Nat → Nat) (s a : Nat) : ∀ n, (rdN B s n).testBit a = true ↔ (a < n ∧ s.testBit a = false ∧ B a &&& s = B a)
  | 0 => by
    show (0 : Nat).testBit a = true ↔ _
    rw [Nat.zero_testBit]
    exact ⟨fun h => (by cases h), fun h => by omega⟩
  | n + 1 => by
    have ih := rdN_bit B s a n
    unfold rdN
    split
    · rename_i h
      rw [Nat.testBit_or, Nat.testBit_two_pow, Bool.or_eq_true, decide_eq_true_iff, ih]
      constructor
      · rintro (⟨h1, h2⟩ | rfl)
        · exact ⟨by omega, h2⟩
        · exact ⟨by omega, h⟩
      · rintro ⟨h1, h2⟩
        by_cases e : n = a
        · exact Or.inr e
        · exact Or.inl ⟨by omega, h2⟩
    · rename_i h
      rw [ih]
      constructor
      · rintro ⟨h1, h2⟩
        exact ⟨by omega, h2⟩
      · rintro ⟨h1, h2⟩
        by_cases e : n = a
        · subst e; exact absurd h2 h
        · exact ⟨by omega, h2⟩
/-- one more station of the set j behind the set s -/
def fcand (D JT : Nat → Option Nat) (cnt m set ready j t x : Nat) : Prop := j ≠ 0 ∧ j &&& ready = j ∧ t = set ||| j ∧ ∃ v d, JT j = some v ∧ D set = some d ∧ v &&& ready = 0 ∧ x = d + cnt * dgN j m
theorem fstep_some {D JT : Nat → Option Nat} {cnt m set ready : Nat} {N : Nat → Option Nat} {i t x : Nat} (h : fstep D JT cnt m set ready N i t = some x) : N t = some x ∨ (t = set ||| i ∧ ∃ v d, JT i = some v ∧ D set = some d ∧ v &&& ready = 0 ∧ x = d + cnt * dgN i m) := by
  unfold fstep at h
  cases hJ : JT i with
  | none => rw [hJ] at h; exact Or.inl h
  | some v =>
    cases hD : D set with
    | none => rw [hJ, hD] at h; exact Or.inl h
    | some d =>
      rw [hJ, hD] at h
      replace h : (if v &&& ready = 0 then (fun t => if t = set ||| i then olt (N t) (some (d + cnt * dgN i m)) else N t) else N) t = some x := h
      split at h
      · rename_i hv
        replace h : (if t = set ||| i then olt (N t) (some (d + cnt * dgN i m)) else N t) = some x := h
        split at h
        · rename_i ht
          rcases olt_some h with h | h
          · exact Or.inl h
          · cases h
            exact Or.inr ⟨ht, v, d, rfl, rfl, hv, rfl⟩
        · exact Or.inl h
      · exact Or.inl h
theorem fstep_keep {D JT : Nat → Option Nat} {cnt m set ready : Nat} {N : Nat → Option Nat} {i t y : Nat} (h : N t = some y) : ∃ x, fstep D JT cnt m set ready N i t = some x ∧ x ≤ y := by
  unfold fstep
  cases hJ : JT i with
  | none => exact ⟨y, h, Nat.le_refl _⟩
  | some v =>
    cases hD : D set with
    | none => exact ⟨y, h, Nat.le_refl _⟩
    | some d =>
      show ∃ x, (if v &&& ready = 0 then (fun t => if t = set ||| i then olt (N t) (some (d + cnt * dgN i m)) else N t) else N) t = some x ∧ x ≤ y
      split
      · show ∃ x, (if t = set ||| i then olt (N t) (some (d + cnt * dgN i m)) else N t) = some x ∧ x ≤ y
        split
        · exact olt_l h
        · exact ⟨y, h, Nat.le_refl _⟩
      · exact ⟨y, h, Nat.le_refl _⟩
theorem fstep_new {D JT : Nat → Option Nat} {cnt m set ready : Nat} {N : Nat → Option Nat} {i v d : Nat} (hJ : JT i = some v) (hD : D set = some d) (hv : v &&& ready = 0) : ∃ x, fstep D JT cnt m set ready N i (set ||| i) = some x ∧ x ≤ d + cnt * dgN i m := by
  unfold fstep
  rw [hJ, hD]
  show ∃ x, (if v &&& ready = 0 then (fun t => if t = set ||| i then olt (N t) (some (d + cnt * dgN i m)) else N t) else N) (set ||| i) = some x ∧ x ≤ _
  rw [if_pos hv]
  show ∃ x, (if set ||| i = set ||| i then olt (N (set ||| i)) (some (d + cnt * dgN i m)) else N (set ||| i)) = some x ∧ x ≤ _
  rw [if_pos rfl]
  exact olt_r rfl
theorem and_and (a b : Nat) : (a &&& b) &&& b = a &&& b := by rw [Nat.and_assoc, Nat.and_self]
theorem fsL_some {D JT : Nat → Option Nat} {cnt m set ready : Nat} : ∀ f i N t x, i &&& ready = i → fsL D JT cnt m set ready f i N t = some x → N t = some x ∨ ∃ j, fcand D JT cnt m set ready j t x
  | 0, _, _, _, _, _, h => Or.inl h
  | f + 1, i, N, t, x, hi, h => by
    unfold fsL at h
    split at h
    · exact Or.inl h
    · rename_i h0
      rcases fsL_some f _ _ t x (and_and _ _) h with h | h
      · rcases fstep_some h with h | ⟨h1, h2⟩
        · exact Or.inl h
        · exact Or.inr ⟨i, h0, hi, h1, h2⟩
      · exact Or.inr h
theorem fsL_keep {D JT : Nat → Option Nat} {cnt m set ready : Nat} : ∀ f i N t y, N t = some y → ∃ x, fsL D JT cnt m set ready f i N t = some x ∧ x ≤ y
  | 0, _, _, _, y, h => ⟨y, h, Nat.le_refl _⟩
  | f + 1, i, N, t, y, h => by
    unfold fsL
    split
    · exact ⟨y, h, Nat.le_refl _⟩
    · obtain ⟨z, hz, hl⟩ := fstep_keep (D := D) (JT := JT) (cnt := cnt) (m := m) (set := set) (ready := ready) (i := i) h
      obtain ⟨x, hx, hl2⟩ := fsL_keep f ((i - 1) &&& ready) _ t z hz
      exact ⟨x, hx, by omega⟩
theorem fsL_new {D JT : Nat → Option Nat} {cnt m set ready : Nat} : ∀ f i N j v d, i ≤ f → i &&& ready = i → j ≠ 0 → j &&& ready = j → j ≤ i → JT j = some v → D set = some d → v &&& ready = 0 → ∃ x, fsL D JT cnt m set ready f i N (set ||| j) = some x ∧ x ≤ d + cnt * dgN j m
  | 0, i, _, j, _, _, h1, _, h3, _, h5, _, _, _ => by omega
  | f + 1, i, N, j, v, d, h1, h2, h3, h4, h5, h6, h7, h8 => by
    unfold fsL
    rw [if_neg (by omega)]
    by_cases e : j = i
    · subst e
      obtain ⟨z, hz, hl⟩ := fstep_new (cnt := cnt) (m := m) (N := N) h6 h7 h8
      obtain ⟨x, hx, hl2⟩ := fsL_keep f ((j - 1) &&& ready) _ _ z hz
      exact ⟨x, hx, by omega⟩
    · have hle : (i - 1) &&& ready ≤ i - 1 := Nat.and_le_left
      exact fsL_new f _ _ j v d (by omega) (and_and _ _) h3 h4 (sub_next ready i j h2 h4 (by omega)) h6 h7 h8
theorem asL_n {D JT : Nat → Option Nat} {B : Nat → Nat} {cnt m s : Nat} (h : D s = none) : asL D JT B cnt m (s + 1) = asL D JT B cnt m s := by
  show (match D s with | none => _ | some _ => _) = _
  rw [h]
theorem asL_s {D JT : Nat → Option Nat} {B : Nat → Nat} {cnt m s d : Nat} (h : D s = some d) : asL D JT B cnt m (s + 1) = fsL D JT cnt m s (rdN B s m) (rdN B s m) (rdN B s m) (asL D JT B cnt m s) := by
  show (match D s with | none => _ | some _ => _) = _
  rw [h]
theorem asL_some {D JT : Nat → Option Nat} {B : Nat → Nat} {cnt m : Nat} : ∀ n t x, asL D JT B cnt m n t = some x → ∃ s j, s < n ∧ fcand D JT cnt m s (rdN B s m) j t x
  | 0, t, x, h => by cases h
  | n + 1, t, x, h => by
    have ih := asL_some (D := D) (JT := JT) (B := B) (cnt := cnt) (m := m) n t x
    cases hD : D n with
    | none =>
      rw [asL_n hD] at h
      obtain ⟨s, j, h1, h2⟩ := ih h
      exact ⟨s, j, by omega, h2⟩
    | some d =>
      rw [asL_s hD] at h
      rcases fsL_some _ _ _ t x (Nat.and_self _) h with h | ⟨j, h⟩
      · obtain ⟨s, j, h1, h2⟩ := ih h
        exact ⟨s, j, by omega, h2⟩
      · exact ⟨n, j, by omega, h⟩
theorem asL_keep {D JT : Nat → Option Nat} {B : Nat → Nat} {cnt m : Nat} {t y : Nat} : ∀ k n, asL D JT B cnt m n t = some y → ∃ x, asL D JT B cnt m (n + k) t = some x ∧ x ≤ y
  | 0, n, h => ⟨y, h, Nat.le_refl _⟩
  | k + 1, n, h => by
    obtain ⟨z, hz, hl⟩ := asL_keep k n h
    show ∃ x, asL D JT B cnt m (n + k + 1) t = some x ∧ x ≤ y
    cases hD : D (n + k) with
    | none => rw [asL_n hD]; exact ⟨z, hz, hl⟩
    | some d =>
      rw [asL_s hD]
      obtain ⟨x, hx, hl2⟩ := fsL_keep (D := D) (JT := JT) (cnt := cnt) (m := m) (set := n + k) (ready := rdN B (n + k) m) (rdN B (n + k) m) (rdN B (n + k) m) _ t z hz
      exact ⟨x, hx, by omega⟩
theorem asL_new {D JT : Nat → Option Nat} {B : Nat → Nat} {cnt m n s j t x : Nat} (hs : s < n) (h : fcand D JT cnt m s (rdN B s m) j t x) : ∃ y, asL D JT B cnt m n t = some y ∧ y ≤ x := by
  obtain ⟨h1, h2, rfl, v, d, h3, h4, h5, rfl⟩ := h
  have hle : j ≤ rdN B s m := by rw [← h2]; exact Nat.and_le_right
  obtain ⟨z, hz, hl⟩ := fsL_new (cnt := cnt) (m := m) (rdN B s m) (rdN B s m) (asL D JT B cnt m s) j v d (Nat.le_refl _) (Nat.and_self _) h1 h2 hle h3 h4 h5
  have e : asL D JT B cnt m (s + 1) = fsL D JT cnt m s (rdN B s m) (rdN B s m) (rdN B s m) (asL D JT B cnt m s) := by
    show (match D s with | none => _ | some _ => _) = _
    rw [h4]
  obtain ⟨y, hy, hl2⟩ := asL_keep (n - (s + 1)) (s + 1) (by rw [e]; exact hz)
  rw [show s + 1 + (n - (s + 1)) = n by omega] at hy
  exact ⟨y, hy, by omega⟩
