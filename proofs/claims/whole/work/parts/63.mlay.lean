/-! PITCH: class and reference find the same; STRIP -/
theorem mulL_bit (p b : Nat) : ∀ n, (mulL p n).testBit b = true ↔ b < n ∧ p ≤ b ∧ b % p = 0
  | 0 => by
    show (0 : Nat).testBit b = true ↔ _
    rw [Nat.zero_testBit]
    exact ⟨fun h => (by cases h), fun h => by omega⟩
  | n + 1 => by
    have ih := mulL_bit p b n
    unfold mulL
    split
    · rename_i h
      rw [Nat.testBit_or, Nat.testBit_two_pow, Bool.or_eq_true, decide_eq_true_iff, ih]
      constructor
      · rintro (⟨h1, h2⟩ | rfl)
        · exact ⟨by omega, h2⟩
        · exact ⟨by omega, h⟩
      · rintro ⟨h1, h2⟩
        by_cases e : n = b
        · exact Or.inr e
        · exact Or.inl ⟨by omega, h2⟩
    · rename_i h
      rw [ih]
      constructor
      · rintro ⟨h1, h2⟩
        exact ⟨by omega, h2⟩
      · rintro ⟨h1, h2⟩
        by_cases e : n = b
        · subst e; exact absurd h2 h
        · exact ⟨by omega, h2⟩
theorem mul_free {n p : Nat} {U : Nat → Prop} (hU : ∀ d, 1 ≤ d → d < 64 → (n.testBit d = true ↔ U d)) (hn : n < 2 ^ 64) (hfar : ∀ d, U d → d < 63) (hp : 1 ≤ p) : n &&& mulN p = 0 ↔ ∀ k, 1 ≤ k → ¬ U (k * p) := by
  rw [and_zero_iff]
  constructor
  · intro h k hk hu
    have hlt := hfar _ hu
    have hle : p ≤ k * p := Nat.le_mul_of_pos_left p hk
    have := h (k * p) ((hU _ (by omega) (by omega)).mpr hu)
    unfold mulN at this
    rw [(mulL_bit p (k * p) 64).mpr ⟨by omega, hle, Nat.mul_mod_left k p⟩] at this
    cases this
  · intro h b hb
    cases hq : (mulN p).testBit b with
    | false => rfl
    | true =>
      obtain ⟨h1, h2, h3⟩ := (mulL_bit p b 64).mp hq
      have e : b / p * p = b := Nat.div_mul_cancel (Nat.dvd_of_mod_eq_zero h3)
      have hk : 1 ≤ b / p := (Nat.le_div_iff_mul_le (by omega)).mpr (by omega)
      have := h (b / p) hk
      rw [e] at this
      exact absurd ((hU b (by omega) (by omega)).mp hb) this
theorem ptL_is {n : Nat} {U : Nat → Prop} (hU : ∀ d, 1 ≤ d → d < 64 → (n.testBit d = true ↔ U d)) (hn : n < 2 ^ 64) (hfar : ∀ d, U d → d < 63) : ∀ j, j ≤ 62 → (∀ q, 1 ≤ q → q < 63 - j → ∃ k, 1 ≤ k ∧ U (k * q)) → isPitch U 63 (ptL n j)
  | 0, _, h => ⟨(show 1 ≤ 63 by decide), Nat.le_refl _, fun h => absurd h (Nat.lt_irrefl _), fun q h1 h2 => h q h1 h2⟩
  | j + 1, hj, h => by
    have hf := mul_free hU hn hfar (p := 62 - j) (by omega)
    unfold ptL
    split
    · rename_i h0
      exact ⟨by omega, by omega, fun _ => hf.mp h0, fun q h1 h2 => h q h1 (by omega)⟩
    · rename_i h0
      refine ptL_is hU hn hfar j (by omega) (fun q h1 h2 => ?_)
      by_cases e : q = 62 - j
      · subst e
        apply Classical.byContradiction
        intro hn'
        exact h0 (hf.mpr (fun k hk hu => hn' ⟨k, hk, hu⟩))
      · exact h q h1 (by omega)
theorem pitch_is {n : Nat} {U : Nat → Prop} (hU : ∀ d, 1 ≤ d → d < 64 → (n.testBit d = true ↔ U d)) (hn : n < 2 ^ 64) (hfar : ∀ d, U d → d < 63) : isPitch U 63 (pitchN n) := ptL_is hU hn hfar 62 (Nat.le_refl _) (fun q h1 h2 => by omega)
theorem pitch_le {U : Nat → Prop} {L p B : Nat} (hB : 1 ≤ B) (hfar : ∀ d, U d → d < B) (h : isPitch U L p) : p ≤ B := by
  rcases Nat.lt_or_ge B p with hl | hl
  · obtain ⟨k, hk, hu⟩ := h.2.2.2 B hB hl
    have := hfar _ hu
    have := Nat.le_mul_of_pos_left B hk
    omega
  · exact hl
theorem pitch_eq {U : Nat → Prop} {L L' p p' B : Nat} (hB : 1 ≤ B) (hfar : ∀ d, U d → d < B) (hL : B < L) (hL' : B < L') (h : isPitch U L p) (h' : isPitch U L' p') : p = p' := by
  have h1 := pitch_le hB hfar h
  have h2 := pitch_le hB hfar h'
  rcases Nat.lt_trichotomy p p' with c | c | c
  · obtain ⟨k, hk, hu⟩ := h'.2.2.2 p h.1 c
    exact absurd hu (h.2.2.1 (by omega) k hk)
  · exact c
  · obtain ⟨k, hk, hu⟩ := h.2.2.2 p' h'.1 c
    exact absurd hu (h'.2.2.1 (by omega) k hk)
/-- with a lesser limit -/
theorem pitch_lim {U : Nat → Prop} {L M p q B : Nat} (hB : 1 ≤ B) (hfar : ∀ d, U d → d < B) (hM : B < M) (h : isPitch U L p) (h' : isPitch U M q) : (p < L → p = q) ∧ (¬ p < L → L ≤ q) := by
  have h2 := pitch_le hB hfar h'
  constructor
  · intro hl
    rcases Nat.lt_trichotomy p q with c | c | c
    · obtain ⟨k, hk, hu⟩ := h'.2.2.2 p h.1 c
      exact absurd hu (h.2.2.1 hl k hk)
    · exact c
    · obtain ⟨k, hk, hu⟩ := h.2.2.2 q h'.1 c
      exact absurd hu (h'.2.2.1 (by omega) k hk)
  · intro hl
    have hpL : p = L := by have := h.2.1; omega
    subst hpL
    rcases Nat.lt_or_ge q p with c | c
    · obtain ⟨k, hk, hu⟩ := h.2.2.2 q h'.1 c
      exact absurd hu (h'.2.2.1 (by omega) k hk)
    · exact c
theorem self_bit {c w h web : Nat} (hc : c < 2 ^ 64) (hf : fitN c w h) (hw : w ≤ 8) (hh : h ≤ 8) (hweb : web ≤ 4) (d : Nat) : (selfN c w h web).testBit d = true ↔ clash c c web d 0 := by
  unfold selfN
  rw [Nat.testBit_div_two_pow, show d + 11 = (11 + (d : Int)).toNat by omega]
  exact near_bit hc hc hf hw hh hweb (by omega)
theorem pair_bit {ca cb wb hb web dx : Nat} {dy : Int} (hca : ca < 2 ^ 64) (hcb : cb < 2 ^ 64) (hf : fitN cb wb hb) (hw : wb ≤ 8) (hh : hb ≤ 8) (hweb : web ≤ 4) : (pairS ca wb hb cb web dy).testBit (11 + dx) = true ↔ clash ca cb web dx dy := by
  unfold pairS
  rw [show 11 + dx = (11 + (dx : Int)).toNat by omega]
  exact near_bit hca hcb hf hw hh hweb (by omega)
theorem mir_bit (n j : Nat) : ∀ i, (mirN n i).testBit j = true ↔ j < i ∧ n.testBit (i - 1 - j) = true
  | 0 => by
    show (0 : Nat).testBit j = true ↔ _
    rw [Nat.zero_testBit]
    exact ⟨fun h => (by cases h), fun h => by omega⟩
  | i + 1 => by
    have ih := fun j => mir_bit n j i
    show (mirN n i * 2 ^ 1 ||| n / 2 ^ i % 2).testBit j = true ↔ _
    rw [Nat.testBit_or, Nat.testBit_mul_two_pow, Bool.or_eq_true, Bool.and_eq_true, decide_eq_true_iff, mir_bit n (j - 1) i, bit_if]
    cases j with
    | zero =>
      rw [show i + 1 - 1 - 0 = i by omega]
      cases h : n.testBit i <;> simp
    | succ j =>
      have e : ((if n.testBit i = true then 1 else 0) : Nat).testBit (j + 1) = false := by
        rw [Nat.testBit_succ]
        split <;> simp
      rw [e, show i + 1 - 1 - (j + 1) = i - 1 - j by omega]
      simp
theorem acr_bit {ca cb wb hb web dx : Nat} {dy : Int} (hca : ca < 2 ^ 64) (hcb : cb < 2 ^ 64) (hf : fitN cb wb hb) (hw : wb ≤ 8) (hh : hb ≤ 8) (hweb : web ≤ 4) (d : Nat) : (acrN (pairS ca wb hb cb web dy) (mirN (pairS ca wb hb cb web dy) 23) dx).testBit d = true ↔ clash ca cb web ((dx : Int) + d) dy ∨ clash ca cb web ((dx : Int) - d) dy := by
  have hnb : ∀ z : Int, -11 ≤ z → ((pairS ca wb hb cb web dy).testBit (11 + z).toNat = true ↔ clash ca cb web z dy) := fun z hz => near_bit hca hcb hf hw hh hweb hz
  unfold acrN
  rw [Nat.testBit_or, Bool.or_eq_true, Nat.testBit_div_two_pow]
  apply or_congr
  · rw [show d + (11 + dx) = (11 + ((dx : Int) + d)).toNat by omega]
    exact hnb _ (by omega)
  · split
    · rename_i h11
      rw [Nat.testBit_div_two_pow, mir_bit]
      constructor
      · rintro ⟨h1, h2⟩
        rw [show 23 - 1 - (d + (11 - dx)) = (11 + ((dx : Int) - d)).toNat by omega] at h2
        exact (hnb _ (by omega)).mp h2
      · intro h
        have hfar := clash_far hweb h
        refine ⟨by omega, ?_⟩
        rw [show 23 - 1 - (d + (11 - dx)) = (11 + ((dx : Int) - d)).toNat by omega]
        exact (hnb _ (by omega)).mpr h
    · rename_i h11
      rw [Nat.testBit_mul_two_pow, Bool.and_eq_true, decide_eq_true_iff, mir_bit]
      constructor
      · rintro ⟨h1, h2, h3⟩
        rw [show 23 - 1 - (d - (dx - 11)) = (11 + ((dx : Int) - d)).toNat by omega] at h3
        exact (hnb _ (by omega)).mp h3
      · intro h
        have hfar := clash_far hweb h
        refine ⟨by omega, by omega, ?_⟩
        rw [show 23 - 1 - (d - (dx - 11)) = (11 + ((dx : Int) - d)).toNat by omega]
        exact (hnb _ (by omega)).mpr h
theorem ucl_far {ca cb w dx d : Nat} {dy : Int} (hw : w ≤ 4) (hdx : dx ≤ 31) (h : ucl ca cb w dx dy d) : d < 43 := by
  rcases h with h | h | h | h <;> have := clash_far hw h <;> omega
/-- the class's pitch of a pair -/
theorem pair_pitch {ca wa ha cb wb hb web dx : Nat} {dy : Int} (hca : ca < 2 ^ 64) (hfa : fitN ca wa ha) (hwa : wa ≤ 8) (hha : ha ≤ 8) (hcb : cb < 2 ^ 64) (hfb : fitN cb wb hb) (hwb : wb ≤ 8) (hhb : hb ≤ 8) (hweb : web ≤ 3) (hdx : dx ≤ 31) : isPitch (ucl ca cb web dx dy) 63 (pitchN (selfN ca wa ha web ||| selfN cb wb hb web ||| acrN (pairS ca wb hb cb web dy) (mirN (pairS ca wb hb cb web dy) 23) dx)) := by
  have hs : pairS ca wb hb cb web dy < 2 ^ 24 := shN_lt (fun r _ => gst_lt ca (by omega) 8 r) hb
  refine pitch_is (fun d _ _ => ?_) ?_ (fun d hd => by have := ucl_far (by omega) hdx hd; omega)
  · rw [Nat.testBit_or, Nat.testBit_or, Bool.or_eq_true, Bool.or_eq_true, self_bit hca hfa hwa hha (by omega), self_bit hcb hfb hwb hhb (by omega), acr_bit hca hcb hfb hwb hhb (by omega), or_assoc]
    rfl
  · have h1 := selfN_lt (c := ca) (w := wa) (h := ha) (web := web) (by omega)
    have h2 := selfN_lt (c := cb) (w := wb) (h := hb) (web := web) (by omega)
    have h3 := acrN_lt hs (Nat.lt_trans (mirN_lt (pairS ca wb hb cb web dy) 23) (by decide)) hdx
    exact Nat.lt_of_lt_of_le (or_bnd (n := 44) (or_bnd (n := 44) (by omega) (by omega)) h3) (by decide)
theorem alone_pitch {c w h web : Nat} (hc : c < 2 ^ 64) (hf : fitN c w h) (hw : w ≤ 8) (hh : h ≤ 8) (hweb : web ≤ 3) : isPitch (fun d => clash c c web d 0) 63 (pitchN (selfN c w h web)) :=
  pitch_is (fun d _ _ => self_bit hc hf hw hh (by omega) d) (Nat.lt_trans (selfN_lt (by omega)) (by decide)) (fun d hd => by have := clash_far (by omega) hd; omega)
theorem clF_pitch {F : Nat → Nat} {U : Nat → Prop} {w L p : Nat} (h : ∀ d, clF F w d ↔ U d) (hp : isPitch (clF F w) L p) : isPitch U L p :=
  ⟨hp.1, hp.2.1, fun hl k hk hu => hp.2.2.1 hl k hk ((h _).mpr hu), fun q h1 h2 => by obtain ⟨k, hk, hu⟩ := hp.2.2.2 q h1 h2; exact ⟨k, hk, (h _).mp hu⟩⟩
/-! strips -/
theorem FA_ne {c : Nat} (hc : c < 2 ^ 64) (y : Nat) : FA c y ≠ 0 ↔ ∃ b, c.testBit b = true ∧ y = b / 8 + 8 := by
  constructor
  · intro h
    obtain ⟨x, hx⟩ := ex_bit h
    obtain ⟨b, h1, h2, _⟩ := (FA_bit hc y x).mp hx
    exact ⟨b, h1, h2⟩
  · rintro ⟨b, h1, h2⟩ h0
    have := (FA_bit hc y (b % 8)).mpr ⟨b, h1, h2, rfl⟩
    rw [h0, Nat.zero_testBit] at this
    cases this
theorem FU_ne {ca cb dx : Nat} {dy : Int} (hca : ca < 2 ^ 64) (hcb : cb < 2 ^ 64) (y : Nat) : FU ca cb dx dy y ≠ 0 ↔ (∃ b, ca.testBit b = true ∧ y = b / 8 + 8) ∨ ∃ b, cb.testBit b = true ∧ (y : Int) = (b / 8 : Nat) + 8 + dy := by
  constructor
  · intro h
    obtain ⟨x, hx⟩ := ex_bit h
    unfold FU at hx
    rw [Nat.testBit_or, Bool.or_eq_true, FA_bit hca, FB_bit hcb] at hx
    rcases hx with ⟨b, h1, h2, _⟩ | ⟨b, h1, h2, _⟩
    · exact Or.inl ⟨b, h1, h2⟩
    · exact Or.inr ⟨b, h1, h2⟩
  · rintro (⟨b, h1, h2⟩ | ⟨b, h1, h2⟩) h0
    · have : (FU ca cb dx dy y).testBit (b % 8) = true := by
        unfold FU
        rw [Nat.testBit_or, Bool.or_eq_true]
        exact Or.inl ((FA_bit hca _ _).mpr ⟨b, h1, h2, rfl⟩)
      rw [h0, Nat.zero_testBit] at this
      cases this
    · have : (FU ca cb dx dy y).testBit (b % 8 + dx) = true := by
        unfold FU
        rw [Nat.testBit_or, Bool.or_eq_true]
        exact Or.inr ((FB_bit hcb _ _).mpr ⟨b, h1, h2, rfl⟩)
      rw [h0, Nat.zero_testBit] at this
      cases this
theorem ends_one {c : Nat} (hc : c < 2 ^ 64) (hcor : cor c) : endsP (FA c) 8 (7 + heightN c) := by
  have hs := height_spec hc
  obtain ⟨b0, hb0, e0⟩ := hcor.2
  obtain ⟨b1, hb1, e1⟩ := hs.2.2 (cor_ne hcor)
  refine ⟨by omega, by omega, (FA_ne hc _).mpr ⟨b0, hb0, by omega⟩, (FA_ne hc _).mpr ⟨b1, hb1, by omega⟩, fun y hy h => ?_⟩
  obtain ⟨b, h1, h2⟩ := (FA_ne hc _).mp h
  have := hs.2.1 b h1
  omega
theorem ends_two {ca cb dx : Nat} {dy : Int} (hca : ca < 2 ^ 64) (hcb : cb < 2 ^ 64) (h1 : cor ca) (h2 : cor cb) (hdy : -8 ≤ dy ∧ dy ≤ 8) : endsP (FU ca cb dx dy) (8 + min 0 dy).toNat (7 + max (heightN ca : Int) (dy + heightN cb)).toNat := by
  have hs1 := height_spec hca
  have hs2 := height_spec hcb
  obtain ⟨b0, hb0, e0⟩ := h1.2
  obtain ⟨b1, hb1, e1⟩ := hs1.2.2 (cor_ne h1)
  obtain ⟨b2, hb2, e2⟩ := h2.2
  obtain ⟨b3, hb3, e3⟩ := hs2.2.2 (cor_ne h2)
  refine ⟨by omega, by omega, (FU_ne hca hcb _).mpr ?_, (FU_ne hca hcb _).mpr ?_, fun y hy h => ?_⟩
  · by_cases c : 0 ≤ dy
    · exact Or.inl ⟨b0, hb0, by omega⟩
    · exact Or.inr ⟨b2, hb2, by omega⟩
  · by_cases c : dy + heightN cb ≤ heightN ca
    · exact Or.inl ⟨b1, hb1, by omega⟩
    · exact Or.inr ⟨b3, hb3, by omega⟩
  · rcases (FU_ne hca hcb _).mp h with ⟨b, g1, g2⟩ | ⟨b, g1, g2⟩
    · have := hs1.2.1 b g1
      omega
    · have := hs2.2.1 b g1
      omega
