/-! shapes that fill their width and height; turned ones do, too -/
def exS (c w h : Nat) : Prop := c < 2 ^ 64 ∧ fitN c w h ∧ (1 ≤ w ∧ w ≤ 8) ∧ (1 ≤ h ∧ h ≤ 8) ∧ (∃ b, c.testBit b = true ∧ b % 8 = 0) ∧ (∃ b, c.testBit b = true ∧ b / 8 = 0) ∧ (∃ b, c.testBit b = true ∧ b % 8 + 1 = w) ∧ ∃ b, c.testBit b = true ∧ b / 8 + 1 = h
theorem exS_cor {c w h : Nat} (e : exS c w h) : cor c := ⟨e.2.2.2.2.1, e.2.2.2.2.2.1⟩
theorem exS_w {c w h : Nat} (e : exS c w h) : widthN c = w := width_is e.1 (fun b hb => (e.2.1 b hb).1) e.2.2.2.2.2.2.1
theorem exS_h {c w h : Nat} (e : exS c w h) : heightN c = h := height_is e.1 (fun b hb => (e.2.1 b hb).2) e.2.2.2.2.2.2.2
theorem exS_of {c : Nat} (hc : c < 2 ^ 64) (h : cor c) : exS c (widthN c) (heightN c) :=
  ⟨hc, fit_own hc, (width_spec hc).1, (height_spec hc).1, h.1, h.2, (width_spec hc).2.2 (cor_ne h), (height_spec hc).2.2 (cor_ne h)⟩
theorem exS_tov {c w h : Nat} (e : exS c w h) : exS (tov c w 64) w h := by
  obtain ⟨hc, hf, hw, hh, ⟨b0, g0, e0⟩, ⟨b1, g1, e1⟩, ⟨b2, g2, e2⟩, ⟨b3, g3, e3⟩⟩ := e
  have hm : ∀ b, c.testBit b = true → (tov c w 64).testBit (8 * (b / 8) + (w - 1 - b % 8)) = true := fun b hb => (tov_bit _ 64).mpr ⟨b, bit_lt hc hb, hb, rfl⟩
  refine ⟨tov_lt hf hw.2 hh.2 64, tov_fit hf hw.2, hw, hh, ⟨_, hm b2 g2, by omega⟩, ⟨_, hm b1 g1, by have := (hf b1 g1).1; omega⟩, ⟨_, hm b0 g0, by omega⟩, ⟨_, hm b3 g3, by have := (hf b3 g3).1; omega⟩⟩
theorem exS_qtn {c w h : Nat} (e : exS c w h) : exS (qtn c h 64) h w := by
  obtain ⟨hc, hf, hw, hh, ⟨b0, g0, e0⟩, ⟨b1, g1, e1⟩, ⟨b2, g2, e2⟩, ⟨b3, g3, e3⟩⟩ := e
  have hm : ∀ b, c.testBit b = true → (qtn c h 64).testBit (8 * (b % 8) + (h - 1 - b / 8)) = true := fun b hb => (qtn_bit _ 64).mpr ⟨b, bit_lt hc hb, hb, rfl⟩
  refine ⟨qtn_lt hf hw.2 hh.2 64, qtn_fit hf hh.2 hw.2, hh, hw, ⟨_, hm b3 g3, by omega⟩, ⟨_, hm b0 g0, by have := (hf b0 g0).2; omega⟩, ⟨_, hm b1 g1, by omega⟩, ⟨_, hm b2 g2, by have := (hf b2 g2).2; omega⟩⟩
theorem exS_qit : ∀ n c w h, exS c w h → ∃ w' h', exS (qit n c w h) w' h'
  | 0, c, w, h, e => ⟨w, h, e⟩
  | n + 1, c, w, h, e => exS_qit n _ _ _ (exS_qtn e)
theorem exS_trn {c w h : Nat} (e : exS c w h) (t : Nat) : ∃ w' h', exS (trn c w h t) w' h' := by
  unfold trn
  split
  · exact exS_qit _ _ _ _ (exS_tov e)
  · exact exS_qit _ _ _ _ e
theorem trn_ok {c w h : Nat} (e : exS c w h) (t : Nat) : trn c w h t < 2 ^ 64 ∧ cor (trn c w h t) := by
  obtain ⟨w', h', e'⟩ := exS_trn e t
  exact ⟨e'.1, exS_cor e'⟩
theorem trn_corner {c w h : Nat} (e : exS c w h) (t : Nat) : cornerN (trn c w h t) = trn c w h t := by
  have := trn_ok e t
  exact corner_id this.1 this.2
/-! THE BEST PAIR: the least number of SPENT, t, dx, dy -/
def spC (ca wa ha cb wb hb web mg t dx j : Nat) : Option Nat :=
  if (pairS ca (widthN (trn cb wb hb t)) (heightN (trn cb wb hb t)) (trn cb wb hb t) web ((j : Int) - 8)).testBit (11 + dx) = true then none
  else some ((stripZ ha (heightN (trn cb wb hb t)) mg ((j : Int) - 8)).toNat * pitchN (selfN ca wa ha web ||| selfN (trn cb wb hb t) (widthN (trn cb wb hb t)) (heightN (trn cb wb hb t)) web ||| acrN (pairS ca (widthN (trn cb wb hb t)) (heightN (trn cb wb hb t)) (trn cb wb hb t) web ((j : Int) - 8)) (mirN (pairS ca (widthN (trn cb wb hb t)) (heightN (trn cb wb hb t)) (trn cb wb hb t) web ((j : Int) - 8)) 23) dx))
def cand (sp : Nat → Nat → Nat → Option Nat) (M : Nat) : Prop := ∃ t dx j s, t < 8 ∧ dx < 16 ∧ j < 17 ∧ sp t dx j = some s ∧ M = s * 2176 + t * 272 + dx * 17 + j
def isBest (sp : Nat → Nat → Nat → Option Nat) (M : Nat) : Prop := cand sp M ∧ ∀ M', cand sp M' → M ≤ M'
theorem isBest_one {sp : Nat → Nat → Nat → Option Nat} {M M' : Nat} (h : isBest sp M) (h' : isBest sp M') : M = M' := Nat.le_antisymm (h.2 M' h'.1) (h'.2 M h.1)
/-- the class's loop over dy, over t -/
def bpD (ca wa ha cb wb hb web mg t b0 : Nat) : Nat → Nat
  | 0 => b0
  | j + 1 => min (bpD ca wa ha cb wb hb web mg t b0 j) (bsL (selfN ca wa ha web ||| selfN (trn cb wb hb t) (widthN (trn cb wb hb t)) (heightN (trn cb wb hb t)) web) (pairS ca (widthN (trn cb wb hb t)) (heightN (trn cb wb hb t)) (trn cb wb hb t) web ((j : Int) - 8)) (stripZ ha (heightN (trn cb wb hb t)) mg ((j : Int) - 8)).toNat (t * 272 + j) 16)
def bpT (ca wa ha cb wb hb web mg : Nat) : Nat → Nat
  | 0 => 2147483647
  | t + 1 => bpD ca wa ha cb wb hb web mg t (bpT ca wa ha cb wb hb web mg t) 17
theorem bsL_min (cl s strip places : Nat) : ∀ n, (bsL cl s strip places n = 2147483647 ∨ ∃ dx, dx < n ∧ s.testBit (11 + dx) = false ∧ bsL cl s strip places n = strip * pitchN (cl ||| acrN s (mirN s 23) dx) * 8 * 16 * 17 + places + dx * 17) ∧ ∀ dx, dx < n → s.testBit (11 + dx) = false → bsL cl s strip places n ≤ strip * pitchN (cl ||| acrN s (mirN s 23) dx) * 8 * 16 * 17 + places + dx * 17
  | 0 => ⟨Or.inl rfl, fun dx h => by omega⟩
  | n + 1 => by
    have ih := bsL_min cl s strip places n
    unfold bsL
    split
    · rename_i h
      refine ⟨?_, fun dx h1 h2 => ?_⟩
      · rcases ih.1 with h1 | ⟨dx, h1, h2⟩
        · exact Or.inl h1
        · exact Or.inr ⟨dx, by omega, h2⟩
      · by_cases e : dx = n
        · subst e; rw [h2] at h; cases h
        · exact ih.2 dx (by omega) h2
    · rename_i h
      have h : s.testBit (11 + n) = false := by
        cases hq : s.testBit (11 + n) with
        | false => rfl
        | true => exact absurd hq h
      refine ⟨?_, fun dx h1 h2 => ?_⟩
      · rcases Nat.le_total (bsL cl s strip places n) (strip * pitchN (cl ||| acrN s (mirN s 23) n) * 8 * 16 * 17 + places + n * 17) with hle | hle
        · rw [Nat.min_eq_left hle]
          rcases ih.1 with h1 | ⟨dx, h1, h2⟩
          · exact Or.inl h1
          · exact Or.inr ⟨dx, by omega, h2⟩
        · rw [Nat.min_eq_right hle]
          exact Or.inr ⟨n, by omega, h, rfl⟩
      · by_cases e : dx = n
        · subst e; exact Nat.min_le_right _ _
        · exact Nat.le_trans (Nat.min_le_left _ _) (ih.2 dx (by omega) h2)
theorem spC_some {ca wa ha cb wb hb web mg t dx j s : Nat} (h : spC ca wa ha cb wb hb web mg t dx j = some s) : (pairS ca (widthN (trn cb wb hb t)) (heightN (trn cb wb hb t)) (trn cb wb hb t) web ((j : Int) - 8)).testBit (11 + dx) = false ∧ s = (stripZ ha (heightN (trn cb wb hb t)) mg ((j : Int) - 8)).toNat * pitchN (selfN ca wa ha web ||| selfN (trn cb wb hb t) (widthN (trn cb wb hb t)) (heightN (trn cb wb hb t)) web ||| acrN (pairS ca (widthN (trn cb wb hb t)) (heightN (trn cb wb hb t)) (trn cb wb hb t) web ((j : Int) - 8)) (mirN (pairS ca (widthN (trn cb wb hb t)) (heightN (trn cb wb hb t)) (trn cb wb hb t) web ((j : Int) - 8)) 23) dx) := by
  unfold spC at h
  split at h
  · cases h
  · rename_i hb'
    cases h
    refine ⟨?_, rfl⟩
    cases hq : (pairS ca (widthN (trn cb wb hb t)) (heightN (trn cb wb hb t)) (trn cb wb hb t) web ((j : Int) - 8)).testBit (11 + dx) with
    | false => rfl
    | true => exact absurd hq hb'
theorem spC_of {ca wa ha cb wb hb web mg t dx j : Nat} (h : (pairS ca (widthN (trn cb wb hb t)) (heightN (trn cb wb hb t)) (trn cb wb hb t) web ((j : Int) - 8)).testBit (11 + dx) = false) : spC ca wa ha cb wb hb web mg t dx j = some ((stripZ ha (heightN (trn cb wb hb t)) mg ((j : Int) - 8)).toNat * pitchN (selfN ca wa ha web ||| selfN (trn cb wb hb t) (widthN (trn cb wb hb t)) (heightN (trn cb wb hb t)) web ||| acrN (pairS ca (widthN (trn cb wb hb t)) (heightN (trn cb wb hb t)) (trn cb wb hb t) web ((j : Int) - 8)) (mirN (pairS ca (widthN (trn cb wb hb t)) (heightN (trn cb wb hb t)) (trn cb wb hb t) web ((j : Int) - 8)) 23) dx)) := by
  unfold spC
  rw [if_neg (by rw [h]; decide)]
theorem bpD_min (ca wa ha cb wb hb web mg t b0 : Nat) : ∀ n, (bpD ca wa ha cb wb hb web mg t b0 n = b0 ∨ bpD ca wa ha cb wb hb web mg t b0 n = 2147483647 ∨ ∃ dx j s, dx < 16 ∧ j < n ∧ spC ca wa ha cb wb hb web mg t dx j = some s ∧ bpD ca wa ha cb wb hb web mg t b0 n = s * 2176 + t * 272 + dx * 17 + j) ∧ (bpD ca wa ha cb wb hb web mg t b0 n ≤ b0 ∧ ∀ dx j s, dx < 16 → j < n → spC ca wa ha cb wb hb web mg t dx j = some s → bpD ca wa ha cb wb hb web mg t b0 n ≤ s * 2176 + t * 272 + dx * 17 + j)
  | 0 => ⟨Or.inl rfl, Nat.le_refl _, fun dx j s _ h => by omega⟩
  | n + 1 => by
    have ih := bpD_min ca wa ha cb wb hb web mg t b0 n
    have hb' := bsL_min (selfN ca wa ha web ||| selfN (trn cb wb hb t) (widthN (trn cb wb hb t)) (heightN (trn cb wb hb t)) web) (pairS ca (widthN (trn cb wb hb t)) (heightN (trn cb wb hb t)) (trn cb wb hb t) web ((n : Int) - 8)) (stripZ ha (heightN (trn cb wb hb t)) mg ((n : Int) - 8)).toNat (t * 272 + n) 16
    unfold bpD
    generalize hX : bsL _ _ _ _ 16 = X at *
    refine ⟨?_, Nat.le_trans (Nat.min_le_left _ _) ih.2.1, fun dx j s h1 h2 h3 => ?_⟩
    · rcases Nat.le_total (bpD ca wa ha cb wb hb web mg t b0 n) X with hle | hle
      · rw [Nat.min_eq_left hle]
        rcases ih.1 with h1 | h1 | ⟨dx, j, s, h1, h2, h3⟩
        · exact Or.inl h1
        · exact Or.inr (Or.inl h1)
        · exact Or.inr (Or.inr ⟨dx, j, s, h1, by omega, h3⟩)
      · rw [Nat.min_eq_right hle]
        rcases hb'.1 with h1 | ⟨dx, h1, h2, h3⟩
        · exact Or.inr (Or.inl h1)
        · refine Or.inr (Or.inr ⟨dx, n, _, h1, by omega, spC_of h2, ?_⟩)
          rw [h3]
          omega
    · by_cases e : j = n
      · subst e
        obtain ⟨g1, g2⟩ := spC_some h3
        have := hb'.2 dx h1 g1
        refine Nat.le_trans (Nat.min_le_right _ _) (Nat.le_trans this ?_)
        rw [g2]
        omega
      · exact Nat.le_trans (Nat.min_le_left _ _) (ih.2.2 dx j s h1 (by omega) h3)
theorem bpT_min (ca wa ha cb wb hb web mg : Nat) : ∀ n, (bpT ca wa ha cb wb hb web mg n = 2147483647 ∨ ∃ t dx j s, t < n ∧ dx < 16 ∧ j < 17 ∧ spC ca wa ha cb wb hb web mg t dx j = some s ∧ bpT ca wa ha cb wb hb web mg n = s * 2176 + t * 272 + dx * 17 + j) ∧ ∀ t dx j s, t < n → dx < 16 → j < 17 → spC ca wa ha cb wb hb web mg t dx j = some s → bpT ca wa ha cb wb hb web mg n ≤ s * 2176 + t * 272 + dx * 17 + j
  | 0 => ⟨Or.inl rfl, fun t dx j s h => by omega⟩
  | n + 1 => by
    have ih := bpT_min ca wa ha cb wb hb web mg n
    have hd := bpD_min ca wa ha cb wb hb web mg n (bpT ca wa ha cb wb hb web mg n) 17
    unfold bpT
    refine ⟨?_, fun t dx j s h1 h2 h3 h4 => ?_⟩
    · rcases hd.1 with h1 | h1 | ⟨dx, j, s, h1, h2, h3, h4⟩
      · rw [h1]
        rcases ih.1 with h1 | ⟨t, dx, j, s, h1, h2⟩
        · exact Or.inl h1
        · exact Or.inr ⟨t, dx, j, s, by omega, h2⟩
      · exact Or.inl h1
      · exact Or.inr ⟨n, dx, j, s, by omega, h1, h2, h3, h4⟩
    · by_cases e : t = n
      · subst e; exact hd.2.2 dx j s h2 h3 h4
      · exact Nat.le_trans hd.2.1 (ih.2 t dx j s (by omega) h2 h3 h4)
theorem strip_bnd {ha hb mg : Nat} {d : Int} (h1 : 1 ≤ ha) (h2 : ha ≤ 8) (h3 : 1 ≤ hb) (h4 : hb ≤ 8) (hm : mg ≤ 3) (hd : -8 ≤ d ∧ d ≤ 8) : 1 ≤ stripZ ha hb mg d ∧ stripZ ha hb mg d ≤ 24 := by
  unfold stripZ
  omega
theorem bpT_best {ca wa ha cb wb hb web mg : Nat} (ea : exS ca wa ha) (eb : exS cb wb hb) (hweb : web ≤ 3) (hmg : mg ≤ 3) : isBest (spC ca wa ha cb wb hb web mg) (bpT ca wa ha cb wb hb web mg 8) ∧ bpT ca wa ha cb wb hb web mg 8 < 2147483647 := by
  have h := bpT_min ca wa ha cb wb hb web mg 8
  -- at dx 15 they are apart
  have h0 := trn_ok eb 0
  have hs0 := height_spec h0.1
  have hw0 := width_spec h0.1
  have hap : (pairS ca (widthN (trn cb wb hb 0)) (heightN (trn cb wb hb 0)) (trn cb wb hb 0) web (((0 : Nat) : Int) - 8)).testBit (11 + 15) = false := by
    cases hq : (pairS ca (widthN (trn cb wb hb 0)) (heightN (trn cb wb hb 0)) (trn cb wb hb 0) web (((0 : Nat) : Int) - 8)).testBit (11 + 15) with
    | false => rfl
    | true =>
      have := (pair_bit (dx := 15) ea.1 h0.1 (fit_own h0.1) hw0.1.2 hs0.1.2 (by omega)).mp hq
      have := clash_far (by omega) this
      omega
  have hle := h.2 0 15 0 _ (by decide) (by decide) (by decide) (spC_of hap)
  have hst := strip_bnd (d := ((0 : Nat) : Int) - 8) ea.2.2.2.1.1 ea.2.2.2.1.2 hs0.1.1 hs0.1.2 hmg (by omega)
  have hlt : bpT ca wa ha cb wb hb web mg 8 < 2147483647 := by
    refine Nat.lt_of_le_of_lt hle ?_
    generalize hP : pitchN _ = P
    have hP63 : P ≤ 63 := by rw [← hP]; exact (pitchN_le _).2
    have : (stripZ ha (heightN (trn cb wb hb 0)) mg (((0 : Nat) : Int) - 8)).toNat * P ≤ 24 * 63 := Nat.mul_le_mul (by omega) hP63
    omega
  refine ⟨⟨?_, fun M' ⟨t, dx, j, s, h1, h2, h3, h4, h5⟩ => by rw [h5]; exact h.2 t dx j s h1 h2 h3 h4⟩, hlt⟩
  rcases h.1 with h1 | h1
  · omega
  · exact h1
