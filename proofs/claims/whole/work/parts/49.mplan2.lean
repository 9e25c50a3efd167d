/-! PLAN: the class's tables find the least row of the fewest stations -/
def valP (m : Nat) (B F : Nat → Nat) (K : Nat) (f : Nat → Nat) : Prop := (∀ p, p < m → f p < K) ∧ (∀ p q, p < m → q < m → (B p).testBit q = true → f q < f p) ∧ (∀ p q, p < m → q < m → p ≠ q → f p = f q → (F p).testBit q = true)
theorem dT_sound {F B : Nat → Nat} {m : Nat} : ∀ k t x, dT (jT F (2 ^ m - 1) m) B m k t = some x → ∃ f : Nat → Nat, (∀ p, t.testBit p = true → p < m ∧ f p < k) ∧ (∀ p q, t.testBit p = true → (B p).testBit q = true → t.testBit q = true ∧ f q < f p) ∧ (∀ p q, t.testBit p = true → t.testBit q = true → p < q → f p = f q → (F p).testBit q = true) ∧ x = rowV (fun p => if t.testBit p = true then f p else 0) m ∧ (∀ j, j < k → ∃ p, t.testBit p = true ∧ f p = j)
  | 0, t, x, h => by
    replace h : (if t = 0 then some 0 else none) = some x := h
    split at h
    · rename_i ht
      subst ht
      cases h
      refine ⟨fun _ => 0, fun p hp => ?_, fun p q hp => ?_, fun p q hp => ?_, ?_, fun j hj => by omega⟩
      · rw [Nat.zero_testBit] at hp; cases hp
      · rw [Nat.zero_testBit] at hp; cases hp
      · rw [Nat.zero_testBit] at hp; cases hp
      · rw [rowV_cong m (g := fun _ => 0) (fun p _ => by rw [Nat.zero_testBit]; rfl), rowV_zero]
    · cases h
  | k + 1, t, x, h => by
    obtain ⟨s, j, _, hj0, hjr, rfl, v, d, hv, hd, hvr, rfl⟩ := asL_some _ _ _ h
    obtain ⟨f, f1, f2, f3, f4, f5⟩ := dT_sound k s d hd
    have hr : ∀ p, j.testBit p = true → p < m ∧ s.testBit p = false ∧ B p &&& s = B p := fun p hp => (rdN_bit B s p m).mp (sub_bit hjr hp)
    have hjm : j < 2 ^ m := Nat.lt_of_le_of_lt (by rw [← hjr]; exact Nat.and_le_right) (rdN_lt B s m)
    obtain ⟨j1, j2⟩ := jT_spec F _ m j v hjm hv
    have hdis : ∀ p, s.testBit p = true → j.testBit p = false := fun p hp => by
      cases hjp : j.testBit p with
      | false => rfl
      | true => rw [(hr p hjp).2.1] at hp; cases hp
    refine ⟨fun p => if j.testBit p = true then k else f p, fun p hp => ?_, fun p q hp hq => ?_, fun p q hp hq hpq he => ?_, ?_, fun j' hj' => ?_⟩
    · rw [Nat.testBit_or, Bool.or_eq_true] at hp
      rcases hp with hp | hp
      · have := f1 p hp
        simp only [hdis p hp]
        exact ⟨this.1, Nat.lt_of_lt_of_le this.2 (Nat.le_succ k)⟩
      · simp only [hp, if_true]
        exact ⟨(hr p hp).1, by omega⟩
    · rw [Nat.testBit_or, Bool.or_eq_true] at hp
      rcases hp with hp | hp
      · have := f2 p q hp hq
        refine ⟨by rw [Nat.testBit_or, this.1, Bool.true_or], ?_⟩
        simp only [hdis p hp, hdis q this.1]
        exact this.2
      · have hqs : s.testBit q = true := sub_bit (hr p hp).2.2 hq
        refine ⟨by rw [Nat.testBit_or, hqs, Bool.true_or], ?_⟩
        simp only [hp, hdis q hqs, if_true]
        exact (f1 q hqs).2
    · rw [Nat.testBit_or, Bool.or_eq_true] at hp hq
      rcases hp with hp | hp
      · rcases hq with hq | hq
        · simp only [hdis p hp, hdis q hq] at he
          exact f3 p q hp hq hpq he
        · simp only [hdis p hp, hq, if_true] at he
          have := (f1 p hp).2
          replace he : f p = k := he
          omega
      · rcases hq with hq | hq
        · simp only [hp, hdis q hq, if_true] at he
          have := (f1 q hq).2
          replace he : k = f q := he
          omega
        · exact j1 p q hp hq hpq
    · rw [f4, dgN_row, ← rowV_add]
      apply rowV_cong
      intro p _
      simp only [Nat.testBit_or]
      cases hjp : j.testBit p with
      | false => cases hsp : s.testBit p <;> simp
      | true =>
        have : s.testBit p = false := (hr p hjp).2.1
        simp [this]
    · by_cases e : j' = k
      · subst e
        obtain ⟨p, hp⟩ := ex_bit hj0
        exact ⟨p, by rw [Nat.testBit_or, hp, Bool.or_true], by simp only [hp, if_true]⟩
      · obtain ⟨p, hp, hf⟩ := f5 j' (by omega)
        exact ⟨p, by rw [Nat.testBit_or, hp, Bool.true_or], by simp only [hdis p hp]; exact hf⟩
theorem dT_compl {F B : Nat → Nat} {m K : Nat} {f : Nat → Nat} (hB : ∀ p, p < m → B p < 2 ^ m) (hFi : ∀ p, p < m → (F p).testBit p = false) (hv : valP m B F K f) (hne : ∀ j, j < K → ∃ p, p < m ∧ f p = j)
    (hmax : ∀ k p, k < K → p < m → k < f p → (∀ q, (B p).testBit q = true → f q < k) → ∃ q, q < m ∧ f q = k ∧ (F q).testBit p = false) : ∀ k, k ≤ K → ∃ x, dT (jT F (2 ^ m - 1) m) B m k (mskN (fun p => decide (f p < k)) m) = some x ∧ x ≤ rowV (fun p => if f p < k then f p else 0) m
  | 0, _ => by
    have e : mskN (fun p => decide (f p < 0)) m = 0 := by
      apply Nat.eq_of_testBit_eq
      intro p
      rw [mskN_bit, Nat.zero_testBit]
      simp
    rw [e]
    exact ⟨0, rfl, Nat.zero_le _⟩
  | k + 1, hk => by
    obtain ⟨d, hd, hdl⟩ := dT_compl hB hFi hv hne hmax k (by omega)
    obtain ⟨v1, v2, v3⟩ := hv
    have hsb : ∀ p, (mskN (fun p => decide (f p < k)) m).testBit p = true ↔ p < m ∧ f p < k := fun p => by rw [mskN_bit, Bool.and_eq_true, decide_eq_true_iff, decide_eq_true_iff]
    have hjb : ∀ p, (mskN (fun p => decide (f p = k)) m).testBit p = true ↔ p < m ∧ f p = k := fun p => by rw [mskN_bit, Bool.and_eq_true, decide_eq_true_iff, decide_eq_true_iff]
    have ht : mskN (fun p => decide (f p < k + 1)) m = mskN (fun p => decide (f p < k)) m ||| mskN (fun p => decide (f p = k)) m := by
      apply Nat.eq_of_testBit_eq
      intro p
      rw [Nat.testBit_or, mskN_bit, mskN_bit, mskN_bit]
      by_cases h1 : p < m <;> by_cases h2 : f p < k <;> by_cases h3 : f p = k <;> simp [h1, h2, h3] <;> omega
    generalize hse : mskN (fun p => decide (f p < k)) m = s at *
    generalize hje : mskN (fun p => decide (f p = k)) m = j at *
    have hsl : s < 2 ^ m := by rw [← hse]; exact mskN_lt _ m
    have hjl : j < 2 ^ m := by rw [← hje]; exact mskN_lt _ m
    obtain ⟨p0, hp0, hf0⟩ := hne k (by omega)
    have hj0 : j ≠ 0 := fun h => by
      have := (hjb p0).mpr ⟨hp0, hf0⟩
      rw [h, Nat.zero_testBit] at this
      cases this
    have hs1 : s < 2 ^ m - 1 := by
      have : s ≠ 2 ^ m - 1 := fun h => by
        have h1 : s.testBit p0 = true := by rw [h, full_bit]; exact decide_eq_true hp0
        have := (hsb p0).mp h1
        omega
      omega
    have hrb : ∀ p, (rdN B s m).testBit p = true ↔ p < m ∧ k ≤ f p ∧ ∀ q, (B p).testBit q = true → f q < k := fun p => by
      rw [rdN_bit]
      constructor
      · rintro ⟨h1, h2, h3⟩
        refine ⟨h1, ?_, fun q hq => ((hsb q).mp (sub_bit h3 hq)).2⟩
        rcases Nat.lt_or_ge (f p) k with h | h
        · have := (hsb p).mpr ⟨h1, h⟩
          rw [h2] at this
          cases this
        · exact h
      · rintro ⟨h1, h2, h3⟩
        refine ⟨h1, ?_, sub_of (fun q hq => (hsb q).mpr ⟨bit_lt (hB p h1) hq, h3 q hq⟩)⟩
        cases h : s.testBit p with
        | false => rfl
        | true =>
          have := (hsb p).mp h
          omega
    have hjr : j &&& rdN B s m = j := sub_of (fun p hp => by
      have h1 := (hjb p).mp hp
      exact (hrb p).mpr ⟨h1.1, by omega, fun q hq => by
        have := v2 p q h1.1 (bit_lt (hB p h1.1) hq) hq
        omega⟩)
    obtain ⟨v, hv⟩ := jT_ex F m m j (Nat.le_refl _) hjl (fun a b ha hb hab => by
      have h1 := (hjb a).mp ha
      have h2 := (hjb b).mp hb
      exact v3 a b h1.1 h2.1 (by omega) (by omega))
    have hvb := (jT_spec F _ m j v hjl hv).2
    have hvr : v &&& rdN B s m = 0 := by
      apply Classical.byContradiction
      intro hn
      obtain ⟨p, hp⟩ := ex_bit hn
      rw [Nat.testBit_and, Bool.and_eq_true] at hp
      have h1 := (hvb p).mp hp.1
      have h2 := (hrb p).mp hp.2
      by_cases e : f p = k
      · have := h1.2 p ((hjb p).mpr ⟨h2.1, e⟩)
        rw [hFi p h2.1] at this
        cases this
      · obtain ⟨q, g1, g2, g3⟩ := hmax k p (by omega) h2.1 (by omega) h2.2.2
        have := h1.2 q ((hjb q).mpr ⟨g1, g2⟩)
        rw [g3] at this
        cases this
    obtain ⟨y, hy, hyl⟩ := asL_new (B := B) (cnt := k) (m := m) hs1 (show fcand (dT (jT F (2 ^ m - 1) m) B m k) (jT F (2 ^ m - 1) m) k m s (rdN B s m) j (s ||| j) (d + k * dgN j m) from ⟨hj0, hjr, rfl, v, d, hv, hd, hvr, rfl⟩)
    rw [ht]
    refine ⟨y, hy, Nat.le_trans hyl ?_⟩
    have e : rowV (fun p => if f p < k + 1 then f p else 0) m = rowV (fun p => if f p < k then f p else 0) m + k * rowV (fun p => if j.testBit p = true then 1 else 0) m := by
      rw [← rowV_add]
      apply rowV_cong
      intro p hp
      by_cases h3 : f p = k
      · rw [if_pos ((hjb p).mpr ⟨hp, h3⟩), if_pos (by omega), if_neg (by omega)]
        omega
      · have : ¬ j.testBit p = true := fun h => h3 ((hjb p).mp h).2
        rw [if_neg this]
        by_cases h2 : f p < k
        · rw [if_pos (by omega), if_pos h2]; rfl
        · rw [if_neg (by omega), if_neg h2]; rfl
    rw [e, dgN_row]
    omega
/-- who covers K places has K at least -/
theorem pigeon : ∀ m K (f : Nat → Nat), (∀ j, j < K → ∃ p, p < m ∧ f p = j) → K ≤ m
  | 0, K, f, h => by
    rcases Nat.eq_zero_or_pos K with h0 | h0
    · omega
    · obtain ⟨p, hp, _⟩ := h 0 h0
      omega
  | m + 1, K, f, h => by
    rcases Nat.eq_zero_or_pos K with h0 | h0
    · omega
    · have := pigeon m (K - 1) (fun p => if f m < f p then f p - 1 else f p) (fun j hj => by
        by_cases c : j < f m
        · obtain ⟨p, hp, e⟩ := h j (by omega)
          refine ⟨p, ?_, ?_⟩
          · by_cases e2 : p = m
            · subst e2; omega
            · omega
          · show (if f m < f p then f p - 1 else f p) = j
            rw [if_neg (by omega)]; exact e
        · obtain ⟨p, hp, e⟩ := h (j + 1) (by omega)
          refine ⟨p, ?_, ?_⟩
          · by_cases e2 : p = m
            · subst e2; omega
            · omega
          · show (if f m < f p then f p - 1 else f p) = j
            rw [if_pos (by omega)]; omega)
      omega
/-- a plan of the fewest stations leaves none empty -/
theorem val_ne {m K : Nat} {B F f : Nat → Nat} (hv : valP m B F K f) (hmin : ∀ K' g, valP m B F K' g → K ≤ K') : ∀ j, j < K → ∃ p, p < m ∧ f p = j := by
  intro j hj
  apply Classical.byContradiction
  intro hn
  have hne : ∀ p, p < m → f p ≠ j := fun p hp e => hn ⟨p, hp, e⟩
  obtain ⟨v1, v2, v3⟩ := hv
  have := hmin (K - 1) (fun p => if j < f p then f p - 1 else f p) ⟨fun p hp => by
    have := v1 p hp
    have := hne p hp
    show (if j < f p then f p - 1 else f p) < K - 1
    split <;> omega, fun p q hp hq hb => by
    have := v2 p q hp hq hb
    have := hne p hp
    have := hne q hq
    show (if j < f q then f q - 1 else f q) < (if j < f p then f p - 1 else f p)
    split <;> split <;> omega, fun p q hp hq hpq e => by
    have := hne p hp
    have := hne q hq
    replace e : (if j < f p then f p - 1 else f p) = (if j < f q then f q - 1 else f q) := e
    exact v3 p q hp hq hpq (by split at e <;> split at e <;> omega)⟩
  omega
theorem plan_eq {m K : Nat} {B F f : Nat → Nat} (hm : m ≤ 10) (hB : ∀ p, p < m → B p < 2 ^ m) (hFi : ∀ p, p < m → (F p).testBit p = false) (hFs : ∀ p q, p < m → q < m → (F p).testBit q = true → (F q).testBit p = true) (hv : valP m B F K f) (hl : ∀ g, valP m B F K g → lexP f g m) (hmin : ∀ K' g, valP m B F K' g → K ≤ K') :
    K ≤ m ∧ (∀ j, j < K → ∃ p, p < m ∧ f p = j) ∧ (∀ j, j < K → dT (jT F (2 ^ m - 1) m) B m j (2 ^ m - 1) = none) ∧ dT (jT F (2 ^ m - 1) m) B m K (2 ^ m - 1) = some (rowV f m) := by
  have hne := val_ne hv hmin
  have hKm := pigeon m K f hne
  have hfull : ∀ p, (2 ^ m - 1).testBit p = true ↔ p < m := fun p => by rw [full_bit, decide_eq_true_iff]
  -- a set of tables' row is a plan
  have hval : ∀ k x, dT (jT F (2 ^ m - 1) m) B m k (2 ^ m - 1) = some x → ∃ g, valP m B F k g ∧ x = rowV g m := by
    intro k x h
    obtain ⟨g, g1, g2, g3, g4, _⟩ := dT_sound k _ _ h
    refine ⟨g, ⟨fun p hp => (g1 p ((hfull p).mpr hp)).2, fun p q hp hq hb => (g2 p q ((hfull p).mpr hp) hb).2, fun p q hp hq hpq e => ?_⟩, ?_⟩
    · rcases Nat.lt_or_ge p q with h | h
      · exact g3 p q ((hfull p).mpr hp) ((hfull q).mpr hq) h e
      · exact hFs q p hq hp (g3 q p ((hfull q).mpr hq) ((hfull p).mpr hp) (by omega) e.symm)
    · rw [g4]
      exact rowV_cong m (fun p hp => if_pos ((hfull p).mpr hp))
  have hmax : ∀ k p, k < K → p < m → k < f p → (∀ q, (B p).testBit q = true → f q < k) → ∃ q, q < m ∧ f q = k ∧ (F q).testBit p = false := by
    intro k p hk hp hkp hq
    apply Classical.byContradiction
    intro hn
    have hall : ∀ q, q < m → f q = k → (F q).testBit p = true := fun q hq e => by
      cases h : (F q).testBit p with
      | true => rfl
      | false => exact absurd ⟨q, hq, e, h⟩ hn
    obtain ⟨v1, v2, v3⟩ := hv
    have hg : valP m B F K (fun q => if q = p then k else f q) := by
      refine ⟨fun q hq => ?_, fun a b ha hb hab => ?_, fun a b ha hb hab e => ?_⟩
      · show (if q = p then k else f q) < K
        split
        · exact hk
        · exact v1 q hq
      · show (if b = p then k else f b) < (if a = p then k else f a)
        have h1 := v2 a b ha hb hab
        by_cases ea : a = p
        · subst ea
          have := hq b hab
          have hba : b ≠ a := fun e => by rw [e] at h1; omega
          rw [if_pos rfl, if_neg hba]
          omega
        · rw [if_neg ea]
          split
          · rename_i eb
            subst eb
            omega
          · exact h1
      · replace e : (if a = p then k else f a) = (if b = p then k else f b) := e
        by_cases ea : a = p
        · subst ea
          rw [if_pos rfl, if_neg (Ne.symm hab)] at e
          exact hFs b a hb ha (hall b hb e.symm)
        · rw [if_neg ea] at e
          by_cases eb : b = p
          · subst eb
            rw [if_pos rfl] at e
            exact hall a ha e
          · rw [if_neg eb] at e
            exact v3 a b ha hb hab e
    have := hl _ hg p hp (fun q hq => if_neg (by omega))
    replace this : f p ≤ (if p = p then k else f p) := this
    rw [if_pos rfl] at this
    omega
  obtain ⟨x, hx, hxl⟩ := dT_compl hB hFi hv hne hmax K (Nat.le_refl _)
  have e1 : mskN (fun p => decide (f p < K)) m = 2 ^ m - 1 := by
    apply Nat.eq_of_testBit_eq
    intro p
    rw [mskN_bit, full_bit]
    by_cases hp : p < m
    · rw [decide_eq_true hp, decide_eq_true (hv.1 p hp)]; rfl
    · rw [decide_eq_false hp]; rfl
  have e2 : rowV (fun p => if f p < K then f p else 0) m = rowV f m := rowV_cong m (fun p hp => if_pos (hv.1 p hp))
  rw [e1] at hx
  rw [e2] at hxl
  obtain ⟨g, hg, rfl⟩ := hval K x hx
  have hle := lexP_le (fun p hp => by have := hv.1 p hp; omega) (hl g hg)
  refine ⟨hKm, hne, fun j hj => ?_, ?_⟩
  · cases h : dT (jT F (2 ^ m - 1) m) B m j (2 ^ m - 1) with
    | none => rfl
    | some y =>
      obtain ⟨g', hg', _⟩ := hval j y h
      have := hmin j g' hg'
      omega
  · rw [hx]
    exact congrArg some (by omega)
