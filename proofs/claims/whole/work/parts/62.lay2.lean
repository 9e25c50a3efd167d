/-! REFERENCE: pitchOf, layFirst, layBoth -/
def isPitch (U : Nat → Prop) (L p : Nat) : Prop := 1 ≤ p ∧ p ≤ L ∧ (p < L → ∀ k, 1 ≤ k → ¬ U (k * p)) ∧ ∀ q, 1 ≤ q → q < p → ∃ k, 1 ≤ k ∧ U (k * q)
/-- copies at the distance d are too near -/
def clF (F : Nat → Nat) (w d : Nat) : Prop := ∃ y1 x1 y2 x2, y1 < 24 ∧ y2 < 24 ∧ (F y1).testBit x1 = true ∧ (F y2).testBit x2 = true ∧ y1 ≤ y2 + w ∧ y2 ≤ y1 + w ∧ x1 ≤ x2 + d + w ∧ x2 + d ≤ x1 + w
theorem clr_iff {F S : Nat → Nat} {w d : Nat} (hS : sprd F S w) : clrP F S d ↔ ¬ clF F w d := by
  constructor
  · rintro h ⟨y1, x1, y2, x2, h1, h2, h3, h4, h5, h6, h7, h8⟩
    have := h y2 h2 x2 h4
    rw [((hS y2 h2).2 (x2 + d)).mpr ⟨y1, x1, h1, h3, h5, h6, h7, h8⟩] at this
    cases this
  · intro h y hy X hX
    cases hq : (S y).testBit (X + d) with
    | false => rfl
    | true =>
      obtain ⟨k, x, h1, h2, h3, h4, h5, h6⟩ := ((hS y hy).2 (X + d)).mp hq
      exact absurd ⟨k, x, y, X, h1, hy, h2, hX, h3, h4, h5, h6⟩ h
abbrev x_rp : Type := (Nat → Nat) × Nat × Nat
abbrev e_rp : x_rp → List Value := fun x => [.ref 31, .int (nI x.2.2)]
theorem v_rp (n : Nat) (h : 2 ≤ n) (x : x_rp) : okv (e_rp x) ∧ (lvA (e_rp x)).length ≤ n := ⟨okv_ref (okv_int okv_nil), h⟩
def e_rpitch : ev := (2, 10, false, 0, 0, sn e_rp (fun x _ I J _ => ljA J 41 x.1 ∧ (I 37 0 = nI x.2.1 ∧ x.2.1 ≤ 3) ∧ 1 ≤ x.2.2 ∧ x.2.2 ≤ 60) (fun x _ I J Q v I' J' Q' => I' = I ∧ Q' = Q ∧ frJ J J' [43] ∧ ∃ p, v = some (.int (nI p)) ∧ isPitch (clF x.1 x.2.1) x.2.2 p))
set_option maxRecDepth 20000 in
theorem c_rpitch {l : Launch} : CX l cdX10_pitchOf e_rpitch := by
  refine cm_sn RX10 edX10_pitchOf [e_span, e_spreadO, e_isClear] false kX10_pitchOf cwX10_pitchOf okX10_pitchOf ⟨⟨_, rfl, c_span⟩, ⟨_, rfl, c_spreadO⟩, ⟨_, rfl, c_isClear⟩, trivial⟩ (by decide) rfl (v_rp _ (by decide)) ?_
  intro um zm G Rt ⟨F, w, limit⟩ a I J Q cl hb hp hR
  obtain ⟨hF, ⟨hI, hw⟩, hl1, hl2⟩ := hp
  have hF : ljA J 41 F := hF
  have hI : I 37 0 = nI w := hI
  have hw : w ≤ 3 := hw
  have hl1 : 1 ≤ limit := hl1
  have hl2 : limit ≤ 60 := hl2
  have hR : ∀ v I' J' Q', (I' = I ∧ Q' = Q ∧ frJ J J' [43] ∧ ∃ p, v = some (Value.int (nI p)) ∧ isPitch (clF F w) limit p) → Rt v a I' J' Q' := hR
  have main : ∀ n J' S, n ≤ 40 → (∀ y, y < 24 → ∀ x, (F y).testBit x = true → x < n) → frJ J J' [43] → (∀ y, y < 24 → J' 43 y = lN (S y)) → sprd F S w → G 31 [some (.ref 31), some (.int (nI limit)), some (.int (nI (n + w))), some (.int (nI 1)), none, none] [] a I J' Q := by
    intro n J' S hn hbn hf hS hsp
    have hfar : ∀ d, n + w ≤ d → ¬ clF F w d := by
      rintro d hd ⟨y1, x1, y2, x2, h1, h2, h3, h4, h5, h6, h7, h8⟩
      have := hbn y1 h1 x1 h3
      omega
    have hF' : ljA J' 41 F := fun y hy => by rw [hf 41 (by decide)]; exact hF y hy
    have hS' : ∀ y, y < 24 → J' 43 y = lN (S y) ∧ S y < 2 ^ 44 := fun y hy => ⟨hS y hy, (hsp y hy).1⟩
    have outer : ∀ d p (v4 v5 : Option Value), d + p = limit → 1 ≤ p → (∀ q, 1 ≤ q → q < p → ∃ k, 1 ≤ k ∧ clF F w (k * q)) → G 31 [some (.ref 31), some (.int (nI limit)), some (.int (nI (n + w))), some (.int (nI p)), v4, v5] [] a I J' Q := by
      intro d
      induction d with
      | zero =>
        intro p v4 v5 hd hp1 hq
        obtain rfl : p = limit := by omega
        refine cl [31, 42, 74] 80 31 _ _ _ _ _ _ ?_
        exact And.intro (fun _ => hR _ _ _ _ ⟨rfl, rfl, hf, p, rfl, hp1, Nat.le_refl _, fun h => by omega, hq⟩) (fun h => absurd (nI_le (Nat.le_refl _) (by omega)) h)
      | succ d ih =>
        intro p v4 v5 hd hp1 hq
        -- behind the inner loop
        have g74 : ∀ b (v5 : Option Value), (b = true → ∀ k, 1 ≤ k → ¬ clF F w (k * p)) → (b = false → ∃ k, 1 ≤ k ∧ clF F w (k * p)) → G 74 [some (.ref 31), some (.int (nI limit)), some (.int (nI (n + w))), some (.int (nI p)), some (.int (bI b)), v5] [] a I J' Q := by
          intro b v5 h1 h2
          refine cl [31, 42, 74] 80 74 _ _ _ _ _ _ ?_
          refine bI_cases' b (fun hb => ?_) (fun hb => ?_)
          · exact hR _ _ _ _ ⟨rfl, rfl, hf, p, rfl, hp1, by omega, fun _ => h1 hb, hq⟩
          · have := ih (p + 1) (some (.int (bI b))) v5 (by omega) (by omega) (fun q hq1 hq2 => by
              by_cases e : q = p
              · subst e; exact h2 hb
              · exact hq q hq1 (by omega))
            rw [← nI_1 p] at this
            exact this
        have inner : ∀ e k b, n + w ≤ e + k * p → 1 ≤ k → k * p ≤ 200 → (b = true → ∀ j, 1 ≤ j → j < k → ¬ clF F w (j * p)) → (b = false → ∃ j, 1 ≤ j ∧ clF F w (j * p)) → G 42 [some (.ref 31), some (.int (nI limit)), some (.int (nI (n + w))), some (.int (nI p)), some (.int (bI b)), some (.int (nI (k * p)))] [] a I J' Q := by
          intro e
          induction e with
          | zero =>
            intro k b he hk hk2 h1 h2
            refine cl [31, 42, 74] 80 42 _ _ _ _ _ _ ?_
            refine And.intro (fun _ => g74 b _ (fun hb j hj => ?_) h2) (fun h => absurd (nI_le (a := n + w) (b := k * p) (by omega) (by omega)) h)
            by_cases hjk : j < k
            · exact h1 hb j hj hjk
            · exact hfar _ (Nat.le_trans (by omega) (Nat.mul_le_mul_right p (show k ≤ j by omega)))
          | succ e ihe =>
            intro k b he hk hk2 h1 h2
            refine cl [31, 42, 74] 80 42 _ _ _ _ _ _ ?_
            refine And.intro (fun (h : nI (n + w) ≤ nI (k * p)) => g74 b _ (fun hb j hj => ?_) h2) (fun (h : ¬ nI (n + w) ≤ nI (k * p)) => ?_)
            · rw [nI_leI (by omega) (by omega)] at h
              by_cases hjk : j < k
              · exact h1 hb j hj hjk
              · exact hfar _ (Nat.le_trans h (Nat.mul_le_mul_right p (show k ≤ j by omega)))
            · rw [nI_leI (by omega) (by omega)] at h
              refine bI_cases' b (fun hb => ?_) (fun hb => ?_)
              · refine Exists.intro (false, k * p, F, S) (And.intro rfl (And.intro ⟨hF', (show k * p < 64 by omega), hS'⟩ ?_))
                rintro v I2 J2 Q2 ⟨rfl, rfl, rfl, b2, rfl, hb2⟩
                have hb2 : b2 = true ↔ clrP F S (k * p) := hb2
                have := ihe (k + 1) b2 (by rw [Nat.succ_mul]; omega) (by omega) (by rw [Nat.succ_mul]; omega) (fun hb2t j hj hjk => ?_) (fun hb2f => ⟨k, hk, ?_⟩)
                · rw [Nat.succ_mul, ← nI_add (k * p) p] at this
                  exact this
                · by_cases e : j = k
                  · subst e; exact (clr_iff hsp).mp (hb2.mp hb2t)
                  · exact h1 hb j hj (by omega)
                · apply Classical.byContradiction
                  intro hn
                  rw [hb2.mpr ((clr_iff hsp).mpr hn)] at hb2f
                  cases hb2f
              · exact g74 b _ (fun h => by rw [hb] at h; cases h) h2
        refine cl [31, 42, 74] 80 31 _ _ _ _ _ _ ?_
        refine And.intro (fun h => absurd h (nI_ge (by omega) (by omega))) (fun _ => ?_)
        have := inner (n + w) 1 true (by omega) (Nat.le_refl _) (by omega) (fun _ j h1 h2 => by omega) (fun h => by cases h)
        rw [Nat.one_mul] at this
        exact this
    exact outer (limit - 1) 1 none none (by omega) (Nat.le_refl _) (fun q h1 h2 => by omega)
  have hin0 : vp_in 0 3 := vp_in_nI (n := 0) (by decide) (by decide)
  refine cl [31, 42, 74] 80 0 _ _ _ _ _ _ ?_
  refine Exists.intro F (And.intro rfl (And.intro hF ?_))
  rintro v I2 J2 Q2 ⟨rfl, rfl, rfl, n, rfl, hn, hbn⟩
  refine And.intro hin0 (And.intro hin0 ?_)
  refine Exists.intro (F, w) (And.intro (show [Value.ref 31, .ref 41, .int (I2 37 0)] = [Value.ref 31, .ref 41, .int (nI w)] by rw [hI]) (And.intro (show ljA J2 41 F ∧ w ≤ 3 from ⟨hF, hw⟩) ?_))
  rintro v I3 J3 Q3 ⟨rfl, rfl, rfl, hf, S, hS, hsp⟩
  have := main n J3 S hn hbn hf hS hsp
  rw [← nI_add, ← hI] at this
  exact this
def FA (c y : Nat) : Nat := if 8 ≤ y ∧ y < 16 then rowN c (y - 8) else 0
def FB (c dx : Nat) (dy : Int) (y : Nat) : Nat := if 0 ≤ (y : Int) - 8 - dy ∧ (y : Int) - 8 - dy < 8 then rowN c ((y : Int) - 8 - dy).toNat * 2 ^ dx else 0
theorem FA_lt (c y : Nat) : FA c y < 2 ^ 40 := by
  have := rowN_lt c (y - 8)
  unfold FA
  split <;> omega
theorem FB_lt {c dx : Nat} {dy : Int} (hd : dx ≤ 31) (y : Nat) : FB c dx dy y < 2 ^ 40 := by
  unfold FB
  split
  · exact Nat.lt_of_lt_of_le (Nat.mul_lt_mul_of_lt_of_le (rowN_lt _ _) (Nat.pow_le_pow_right (by decide) hd) (Nat.two_pow_pos _)) (by decide)
  · decide
theorem FA_bit {c : Nat} (hc : c < 2 ^ 64) (y x : Nat) : (FA c y).testBit x = true ↔ ∃ b, c.testBit b = true ∧ y = b / 8 + 8 ∧ x = b % 8 := by
  unfold FA
  split
  · rename_i h
    rw [rowN_bit, Bool.and_eq_true, decide_eq_true_iff]
    constructor
    · rintro ⟨h1, h2⟩
      exact ⟨_, h2, by omega, by omega⟩
    · rintro ⟨b, h1, rfl, rfl⟩
      exact ⟨by omega, by rw [show 8 * (b / 8 + 8 - 8) + b % 8 = b by omega]; exact h1⟩
  · rename_i h
    rw [Nat.zero_testBit]
    constructor
    · intro h; cases h
    · rintro ⟨b, h1, h2, h3⟩
      have := bit_lt hc h1
      omega
theorem FB_bit {c dx : Nat} {dy : Int} (hc : c < 2 ^ 64) (y x : Nat) : (FB c dx dy y).testBit x = true ↔ ∃ b, c.testBit b = true ∧ (y : Int) = (b / 8 : Nat) + 8 + dy ∧ x = b % 8 + dx := by
  unfold FB
  split
  · rename_i h
    rw [Nat.testBit_mul_two_pow, Bool.and_eq_true, decide_eq_true_iff, rowN_bit, Bool.and_eq_true, decide_eq_true_iff]
    constructor
    · rintro ⟨h1, h2, h3⟩
      exact ⟨_, h3, by omega, by omega⟩
    · rintro ⟨b, h1, h2, rfl⟩
      refine ⟨by omega, by omega, ?_⟩
      rw [show 8 * ((y : Int) - 8 - dy).toNat + (b % 8 + dx - dx) = b by omega]
      exact h1
  · rename_i h
    rw [Nat.zero_testBit]
    constructor
    · intro h; cases h
    · rintro ⟨b, h1, h2, h3⟩
      have := bit_lt hc h1
      omega
theorem clF_one {c w d : Nat} (hc : c < 2 ^ 64) : clF (FA c) w d ↔ clash c c w d 0 := by
  constructor
  · rintro ⟨y1, x1, y2, x2, h1, h2, h3, h4, h5, h6, h7, h8⟩
    obtain ⟨b1, g1, rfl, rfl⟩ := (FA_bit hc _ _).mp h3
    obtain ⟨b2, g2, rfl, rfl⟩ := (FA_bit hc _ _).mp h4
    exact ⟨b1, b2, g1, g2, ⟨by omega, by omega⟩, ⟨by omega, by omega⟩⟩
  · rintro ⟨b1, b2, g1, g2, ⟨h1, h2⟩, ⟨h3, h4⟩⟩
    have := bit_lt hc g1
    have := bit_lt hc g2
    exact ⟨b1 / 8 + 8, b1 % 8, b2 / 8 + 8, b2 % 8, by omega, by omega, (FA_bit hc _ _).mpr ⟨b1, g1, rfl, rfl⟩, (FA_bit hc _ _).mpr ⟨b2, g2, rfl, rfl⟩, by omega, by omega, by omega, by omega⟩
def FU (ca cb dx : Nat) (dy : Int) (y : Nat) : Nat := FA ca y ||| FB cb dx dy y
/-- copies of a pair at the distance d are too near -/
def ucl (ca cb w dx : Nat) (dy : Int) (d : Nat) : Prop := clash ca ca w d 0 ∨ clash cb cb w d 0 ∨ clash ca cb w ((dx : Int) + d) dy ∨ clash ca cb w ((dx : Int) - d) dy
theorem clF_two {ca cb w dx d : Nat} {dy : Int} (hca : ca < 2 ^ 64) (hcb : cb < 2 ^ 64) (hdy : -8 ≤ dy ∧ dy ≤ 8) : clF (FU ca cb dx dy) w d ↔ ucl ca cb w dx dy d := by
  have hu : ∀ y x, (FU ca cb dx dy y).testBit x = true ↔ ((∃ b, ca.testBit b = true ∧ y = b / 8 + 8 ∧ x = b % 8) ∨ ∃ b, cb.testBit b = true ∧ (y : Int) = (b / 8 : Nat) + 8 + dy ∧ x = b % 8 + dx) := fun y x => by
    unfold FU
    rw [Nat.testBit_or, Bool.or_eq_true, FA_bit hca, FB_bit hcb]
  constructor
  · rintro ⟨y1, x1, y2, x2, h1, h2, h3, h4, h5, h6, h7, h8⟩
    rcases (hu _ _).mp h3 with ⟨b1, g1, rfl, rfl⟩ | ⟨b1, g1, e1, rfl⟩
    · rcases (hu _ _).mp h4 with ⟨b2, g2, rfl, rfl⟩ | ⟨b2, g2, e2, rfl⟩
      · exact Or.inl ⟨b1, b2, g1, g2, ⟨by omega, by omega⟩, ⟨by omega, by omega⟩⟩
      · exact Or.inr (Or.inr (Or.inl ⟨b1, b2, g1, g2, ⟨by omega, by omega⟩, ⟨by omega, by omega⟩⟩))
    · rcases (hu _ _).mp h4 with ⟨b2, g2, rfl, rfl⟩ | ⟨b2, g2, e2, rfl⟩
      · exact Or.inr (Or.inr (Or.inr ⟨b2, b1, g2, g1, ⟨by omega, by omega⟩, ⟨by omega, by omega⟩⟩))
      · exact Or.inr (Or.inl ⟨b1, b2, g1, g2, ⟨by omega, by omega⟩, ⟨by omega, by omega⟩⟩)
  · rintro (⟨b1, b2, g1, g2, ⟨h1, h2⟩, ⟨h3, h4⟩⟩ | ⟨b1, b2, g1, g2, ⟨h1, h2⟩, ⟨h3, h4⟩⟩ | ⟨b1, b2, g1, g2, ⟨h1, h2⟩, ⟨h3, h4⟩⟩ | ⟨b1, b2, g1, g2, ⟨h1, h2⟩, ⟨h3, h4⟩⟩)
    · have := bit_lt hca g1
      have := bit_lt hca g2
      exact ⟨b1 / 8 + 8, b1 % 8, b2 / 8 + 8, b2 % 8, by omega, by omega, (hu _ _).mpr (Or.inl ⟨b1, g1, rfl, rfl⟩), (hu _ _).mpr (Or.inl ⟨b2, g2, rfl, rfl⟩), by omega, by omega, by omega, by omega⟩
    · have := bit_lt hcb g1
      have := bit_lt hcb g2
      exact ⟨((b1 / 8 : Nat) + 8 + dy).toNat, b1 % 8 + dx, ((b2 / 8 : Nat) + 8 + dy).toNat, b2 % 8 + dx, by omega, by omega, (hu _ _).mpr (Or.inr ⟨b1, g1, by omega, rfl⟩), (hu _ _).mpr (Or.inr ⟨b2, g2, by omega, rfl⟩), by omega, by omega, by omega, by omega⟩
    · have := bit_lt hca g1
      have := bit_lt hcb g2
      exact ⟨b1 / 8 + 8, b1 % 8, ((b2 / 8 : Nat) + 8 + dy).toNat, b2 % 8 + dx, by omega, by omega, (hu _ _).mpr (Or.inl ⟨b1, g1, rfl, rfl⟩), (hu _ _).mpr (Or.inr ⟨b2, g2, by omega, rfl⟩), by omega, by omega, by omega, by omega⟩
    · have := bit_lt hca g1
      have := bit_lt hcb g2
      exact ⟨((b2 / 8 : Nat) + 8 + dy).toNat, b2 % 8 + dx, b1 / 8 + 8, b1 % 8, by omega, by omega, (hu _ _).mpr (Or.inr ⟨b2, g2, by omega, rfl⟩), (hu _ _).mpr (Or.inl ⟨b1, g1, rfl, rfl⟩), by omega, by omega, by omega, by omega⟩
theorem clr_two {ca cb w dx : Nat} {dy : Int} {S : Nat → Nat} (hca : ca < 2 ^ 64) (hcb : cb < 2 ^ 64) (hdy : -8 ≤ dy ∧ dy ≤ 8) (hS : sprd (FA ca) S w) : clrP (FB cb dx dy) S 0 ↔ ¬ clash ca cb w dx dy := by
  constructor
  · rintro h ⟨b1, b2, g1, g2, ⟨h1, h2⟩, ⟨h3, h4⟩⟩
    have := bit_lt hca g1
    have := bit_lt hcb g2
    have hy : ((b2 / 8 : Nat) + 8 + dy).toNat < 24 := by omega
    have := h _ hy (b2 % 8 + dx) ((FB_bit hcb _ _).mpr ⟨b2, g2, by omega, rfl⟩)
    rw [((hS _ hy).2 _).mpr ⟨b1 / 8 + 8, b1 % 8, by omega, (FA_bit hca _ _).mpr ⟨b1, g1, rfl, rfl⟩, by omega, by omega, by omega, by omega⟩] at this
    cases this
  · intro h y hy X hX
    cases hq : (S y).testBit (X + 0) with
    | false => rfl
    | true =>
      obtain ⟨k, x, h1, h2, h3, h4, h5, h6⟩ := ((hS y hy).2 (X + 0)).mp hq
      obtain ⟨b1, g1, rfl, rfl⟩ := (FA_bit hca _ _).mp h2
      obtain ⟨b2, g2, e2, rfl⟩ := (FB_bit hcb _ _).mp hX
      exact absurd ⟨b1, b2, g1, g2, ⟨by omega, by omega⟩, ⟨by omega, by omega⟩⟩ h
def e_layF : ev := (2, 10, false, 0, 0, sn e_s1 (fun x _ I _ _ => x.1 < 12 ∧ rwA I 32 (8 * x.1) x.2) (fun x _ I J Q v I' J' Q' => v = none ∧ I' = I ∧ Q' = Q ∧ frJ J J' [41] ∧ ljA J' 41 (FA x.2)))
set_option maxRecDepth 20000 in
theorem c_layF {l : Launch} : CX l cdX10_layFirst e_layF := by
  refine cm_sn RX10 edX10_layFirst [e_rclear] false kX10_layFirst cwX10_layFirst okX10_layFirst ⟨⟨_, rfl, c_rclear⟩, trivial⟩ (by decide) rfl (v_s1 _ (by decide)) ?_
  intro um zm G Rt ⟨s, c⟩ a I J Q cl hb hp hR
  obtain ⟨hs, hr⟩ := hp
  have hs : s < 12 := hs
  have hr : rwA I 32 (8 * s) c := hr
  have hR : ∀ v I' J' Q', (v = none ∧ I' = I ∧ Q' = Q ∧ frJ J J' [41] ∧ ljA J' 41 (FA c)) → Rt v a I' J' Q' := hR
  have loop : ∀ d y J', d + y = 8 → frJ J J' [41] → (∀ j, j < 24 → J' 41 j = lN (if 8 ≤ j ∧ j < 8 + y then rowN c (j - 8) else 0)) → G 9 [some (.ref 31), some (.int (nI s)), some (.int (nI y))] [] a I J' Q := by
    intro d
    induction d with
    | zero =>
      intro y J' hd hf h
      obtain rfl : y = 8 := by omega
      refine cl [9] 60 9 _ _ _ _ _ _ ?_
      exact And.intro (fun _ => hR _ _ _ _ ⟨rfl, rfl, rfl, hf, fun j hj => ⟨h j hj, FA_lt c j⟩⟩) (fun h => absurd (by decide) h)
    | succ d ih =>
      intro y J' hd hf h
      have ei := rwIx (y := y) hs (by omega)
      have ev : (I 32 (8 * nI s + nI y).toNatClampNeg).toInt64 = lN (rowN c y) := by rw [ei, nI_clamp (by omega), hr y (by omega), nI_l rowN_small]
      have e8 : nI y + 8 = nI (y + 8) := nI_add y 8
      refine cl [9] 60 9 _ _ _ _ _ _ ?_
      refine And.intro (fun h => absurd h (nI_ge (a := y) (b := 8) (by omega) (by decide))) (fun _ => And.intro (show vp_in (8 * nI s + nI y) 96 from by rw [ei]; exact vp_in_nI (by omega) (by decide)) (And.intro (show vp_in (nI y + 8) 24 from by rw [e8]; exact vp_in_nI (by omega) (by decide)) ?_))
      have := ih (y + 1) (up2 J' 41 (nI y + 8).toNatClampNeg (I 32 (8 * nI s + nI y).toNatClampNeg).toInt64) (by omega) (frJ_up hf (by decide)) (fun j hj => ?_)
      · rw [← nI_1 y] at this
        exact this
      · rw [e8, nI_clamp (by omega), ev]
        by_cases e : j = y + 8
        · subst e
          rw [up2_at, if_pos (by omega), Nat.add_sub_cancel]
        · rw [up2_nej e, h j hj]
          by_cases e2 : 8 ≤ j ∧ j < 8 + y
          · rw [if_pos e2, if_pos (by omega)]
          · rw [if_neg e2, if_neg (by omega)]
  refine cl [9] 60 0 _ _ _ _ _ _ ?_
  refine Exists.intro false (And.intro rfl (And.intro trivial ?_))
  rintro v I2 J2 Q2 ⟨rfl, rfl, rfl, hf, h0⟩
  exact loop 8 0 J2 rfl hf (fun j hj => by rw [if_neg (by omega)]; exact h0 j hj)
abbrev x_lb : Type := (Nat × Nat × Nat) × Nat × Int × Nat
abbrev e_lb : x_lb → List Value := fun x => [.ref 31, .int (nI x.1.1), .int (nI x.2.1), .int (zI x.2.2.1)]
theorem v_lb (n : Nat) (h : 4 ≤ n) (x : x_lb) : okv (e_lb x) ∧ (lvA (e_lb x)).length ≤ n := ⟨okv_ref (okv_int (okv_int (okv_int okv_nil))), h⟩
def e_layB : ev := (4, 10, false, 0, 0, sn e_lb (fun x _ I _ _ => (x.1.1 < 12 ∧ rwA I 32 (8 * x.1.1) x.1.2.1 ∧ x.1.2.1 < 2 ^ 64) ∧ (rwA I 35 0 x.1.2.2 ∧ x.1.2.2 < 2 ^ 64) ∧ x.2.1 ≤ 31 ∧ (-8 ≤ x.2.2.1 ∧ x.2.2.1 ≤ 8) ∧ I 37 0 = nI x.2.2.2 ∧ x.2.2.2 ≤ 3)
  (fun x _ I J Q v I' J' Q' => I' = I ∧ Q' = Q ∧ frJ J J' [41, 42, 43] ∧ ∃ b, v = some (.int (bI b)) ∧ (b = true ↔ ¬ clash x.1.2.1 x.1.2.2 x.2.2.2 x.2.1 x.2.2.1) ∧ (b = true → ljA J' 41 (FU x.1.2.1 x.1.2.2 x.2.1 x.2.2.1))))
set_option maxRecDepth 20000 in
theorem c_layB {l : Launch} : CX l cdX10_layBoth e_layB := by
  refine cm_sn RX10 edX10_layBoth [e_layF, e_rclear, e_spreadO, e_isClear] true kX10_layBoth cwX10_layBoth okX10_layBoth ⟨⟨_, rfl, c_layF⟩, ⟨_, rfl, c_rclear⟩, ⟨_, rfl, c_spreadO⟩, ⟨_, rfl, c_isClear⟩, trivial⟩ (by decide) rfl (v_lb _ (by decide)) ?_
  intro um zm G Rt ⟨⟨s, ca, cb⟩, dx, dy, w⟩ a I J Q cl hb hp hR
  obtain ⟨⟨hs, hra, hca⟩, ⟨hrb, hcb⟩, hdx, hdy, hI, hw⟩ := hp
  have hs : s < 12 := hs
  have hra : rwA I 32 (8 * s) ca := hra
  have hca : ca < 2 ^ 64 := hca
  have hrb : rwA I 35 0 cb := hrb
  have hcb : cb < 2 ^ 64 := hcb
  have hdx : dx ≤ 31 := hdx
  have hdy : -8 ≤ dy ∧ dy ≤ 8 := hdy
  have hI : I 37 0 = nI w := hI
  have hw : w ≤ 3 := hw
  have hR : ∀ v I' J' Q', (I' = I ∧ Q' = Q ∧ frJ J J' [41, 42, 43] ∧ ∃ b, v = some (Value.int (bI b)) ∧ (b = true ↔ ¬ clash ca cb w dx dy) ∧ (b = true → ljA J' 41 (FU ca cb dx dy))) → Rt v a I' J' Q' := hR
  have l2 : ∀ d y J', d + y = 24 → ¬ clash ca cb w dx dy → frJ J J' [41, 42, 43] → (∀ j, j < y → J' 41 j = lN (FU ca cb dx dy j)) → (∀ j, y ≤ j → j < 24 → J' 41 j = lN (FA ca j)) → ljA J' 42 (FB cb dx dy) → G 81 [some (.ref 31), some (.int (nI s)), some (.int (nI dx)), some (.int (zI dy)), some (.int (nI y))] [] a I J' Q := by
    intro d
    induction d with
    | zero =>
      intro y J' hd hcl hf h1 h2 h3
      obtain rfl : y = 24 := by omega
      refine cl [15, 50, 81] 80 81 _ _ _ _ _ _ ?_
      exact And.intro (fun _ => And.intro (Or.inr rfl) (hR _ _ _ _ ⟨rfl, rfl, hf, true, rfl, ⟨fun _ => hcl, fun _ => rfl⟩, fun _ j hj => ⟨h1 j hj, or_bnd (FA_lt ca j) (FB_lt hdx j)⟩⟩)) (fun h => absurd (by decide) h)
    | succ d ih =>
      intro y J' hd hcl hf h1 h2 h3
      have ecy : (nI y).toNatClampNeg = y := nI_clamp (by omega)
      have hin : vp_in (nI y) 24 := vp_in_nI (by omega) (by decide)
      have e1 : J' 41 (nI y).toNatClampNeg ||| J' 42 (nI y).toNatClampNeg = lN (FU ca cb dx dy y) := by
        have q1 := FA_lt ca y
        have q2 := (h3 y (by omega)).2
        rw [ecy, h2 y (Nat.le_refl _) (by omega), (h3 y (by omega)).1, wb_or (by omega) (by omega)]
        rfl
      refine cl [15, 50, 81] 80 81 _ _ _ _ _ _ ?_
      refine And.intro (fun h => absurd h (nI_ge (a := y) (b := 24) (by omega) (by decide))) (fun _ => And.intro hin (And.intro hin (And.intro hin ?_)))
      have := ih (y + 1) (up2 J' 41 (nI y).toNatClampNeg (J' 41 (nI y).toNatClampNeg ||| J' 42 (nI y).toNatClampNeg)) (by omega) hcl (frJ_up hf (by decide)) (fun j hj => ?_) (fun j hj1 hj2 => by rw [ecy, up2_nej (by omega)]; exact h2 j (by omega) hj2) (fun j hj => by rw [up2_ne (by decide)]; exact h3 j hj)
      · rw [← nI_1 y] at this
        exact this
      · rw [e1, ecy]
        by_cases e : j = y
        · subst e; rw [up2_at]
        · rw [up2_nej e]; exact h1 j (by omega)
  have hin0 : vp_in 0 3 := vp_in_nI (n := 0) (by decide) (by decide)
  have g50 : ∀ v4 J', frJ J J' [41, 42, 43] → ljA J' 41 (FA ca) → ljA J' 42 (FB cb dx dy) → G 50 [some (.ref 31), some (.int (nI s)), some (.int (nI dx)), some (.int (zI dy)), v4] [] a I J' Q := by
    intro v4 J' hf h41 h42
    refine cl [15, 50, 81] 80 50 _ _ _ _ _ _ ?_
    refine And.intro hin0 ?_
    refine Exists.intro (FA ca, w) (And.intro (show [Value.ref 31, .ref 41, .int (I 37 0)] = [Value.ref 31, .ref 41, .int (nI w)] by rw [hI]) (And.intro (show ljA J' 41 (FA ca) ∧ w ≤ 3 from ⟨h41, hw⟩) ?_))
    rintro v I2 J2 Q2 ⟨rfl, rfl, rfl, hf2, S, hS, hsp⟩
    have h41' : ljA J2 41 (FA ca) := fun y hy => by rw [hf2 41 (by decide)]; exact h41 y hy
    have h42' : ljA J2 42 (FB cb dx dy) := fun y hy => by rw [hf2 42 (by decide)]; exact h42 y hy
    have hf3 : frJ J J2 [41, 42, 43] := frJ_tr hf hf2 (fun k hk => by simp at hk; rw [hk]; decide)
    refine Exists.intro (true, 0, FB cb dx dy, S) (And.intro rfl (And.intro ⟨h42', (show 0 < 64 by decide), fun y hy => ⟨hS y hy, (hsp y hy).1⟩⟩ ?_))
    rintro v I3 J3 Q3 ⟨rfl, rfl, rfl, b, rfl, hb⟩
    have hb : b = true ↔ clrP (FB cb dx dy) S 0 := hb
    have hc := clr_two (w := w) hca hcb hdy hsp (dx := dx)
    refine bI_cases b (fun hbt => ?_) (fun hbf => And.intro (Or.inl rfl) (hR _ _ _ _ ⟨rfl, rfl, hf3, false, rfl, ⟨fun h => (by cases h), fun h => ?_⟩, fun h => by cases h⟩))
    · exact l2 24 0 J3 rfl (hc.mp (hb.mp hbt)) hf3 (fun j hj => by omega) (fun j _ hj => (h41' j hj).1) h42'
    · rw [hb.mpr (hc.mpr h)] at hbf
      cases hbf
  have l1 : ∀ (d y : Nat) J', d + y = 8 → frJ J J' [41, 42, 43] → ljA J' 41 (FA ca) → (∀ j, j < 24 → J' 42 j = lN (if 0 ≤ (j : Int) - 8 - dy ∧ (j : Int) - 8 - dy < y then rowN cb ((j : Int) - 8 - dy).toNat * 2 ^ dx else 0)) → G 15 [some (.ref 31), some (.int (nI s)), some (.int (nI dx)), some (.int (zI dy)), some (.int (nI y))] [] a I J' Q := by
    intro d
    induction d with
    | zero =>
      intro y J' hd hf h41 h42
      obtain rfl : y = 8 := by omega
      refine cl [15, 50, 81] 80 15 _ _ _ _ _ _ ?_
      exact And.intro (fun _ => g50 _ J' hf h41 (fun j hj => ⟨h42 j hj, FB_lt hdx j⟩)) (fun h => absurd (by decide) h)
    | succ d ih =>
      intro y J' hd hf h41 h42
      have hrow := hrb y (by omega)
      rw [Nat.zero_add] at hrow
      have ev : (I 35 (nI y).toNatClampNeg).toInt64 <<< ((nI dx).toInt64 &&& 63) = lN (rowN cb y * 2 ^ dx) := by
        rw [nI_clamp (by omega), hrow, nI_l rowN_small, wb_shl _ (by omega)]
      obtain ⟨k, hk⟩ : ∃ k : Nat, (k : Int) = (y : Int) + 8 + dy := ⟨((y : Int) + 8 + dy).toNat, by omega⟩
      have ei : nI y + 8 + zI dy = nI k := by
        rw [show (8 : Int32) = nI 8 from rfl, nI_add, zI_nat, zI_add, zI_nat, hk]
        rfl
      refine cl [15, 50, 81] 80 15 _ _ _ _ _ _ ?_
      refine And.intro (fun h => absurd h (nI_ge (a := y) (b := 8) (by omega) (by decide))) (fun _ => And.intro (show vp_in (nI y) 8 from vp_in_nI (by omega) (by decide)) (And.intro (show vp_in (nI y + 8 + zI dy) 24 from by rw [ei]; exact vp_in_nI (by omega) (by decide)) ?_))
      have := ih (y + 1) (up2 J' 42 (nI y + 8 + zI dy).toNatClampNeg ((I 35 (nI y).toNatClampNeg).toInt64 <<< ((nI dx).toInt64 &&& 63))) (by omega) (frJ_up hf (by decide)) (fun j hj => by rw [up2_ne (by decide)]; exact h41 j hj) (fun j hj => ?_)
      · rw [← nI_1 y] at this
        exact this
      · rw [ei, nI_clamp (by omega), ev]
        by_cases e : j = k
        · subst e
          rw [up2_at, if_pos (by omega), show ((j : Int) - 8 - dy).toNat = y by omega]
        · rw [up2_nej e, h42 j hj]
          by_cases e2 : 0 ≤ (j : Int) - 8 - dy ∧ (j : Int) - 8 - dy < y
          · rw [if_pos e2, if_pos (by omega)]
          · rw [if_neg e2, if_neg (by omega)]
  refine cl [15, 50, 81] 80 0 _ _ _ _ _ _ ?_
  refine Exists.intro (s, ca) (And.intro rfl (And.intro (show s < 12 ∧ rwA I 32 (8 * s) ca from ⟨hs, hra⟩) ?_))
  rintro v I2 J2 Q2 ⟨rfl, rfl, rfl, hf2, h41⟩
  refine Exists.intro true (And.intro rfl (And.intro trivial ?_))
  rintro v I3 J3 Q3 ⟨rfl, rfl, rfl, hf3, h42⟩
  have hf4 : frJ J J3 [41, 42, 43] := fun k hk => by
    rw [hf3 k (fun h => hk (by simp at h; rw [h]; decide)), hf2 k (fun h => hk (by simp at h; rw [h]; decide))]
  exact l1 8 0 J3 rfl hf4 (fun j hj => by rw [hf3 41 (by decide)]; exact h41 j hj) (fun j hj => by rw [if_neg (by omega)]; exact h42 j hj)
