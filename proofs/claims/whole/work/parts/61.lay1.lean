/-! REFERENCE: long rows -/
def ljA (J : hJ) (k : Nat) (F : Nat → Nat) : Prop := ∀ y, y < 24 → J k y = lN (F y) ∧ F y < 2 ^ 40
def frJ (J J' : hJ) (l : List Nat) : Prop := ∀ k, k ∉ l → J' k = J k
theorem frJ_refl (J : hJ) (l : List Nat) : frJ J J l := fun _ _ => rfl
theorem frJ_up {J J' : hJ} {l : List Nat} {k j : Nat} {v : Int64} (h : frJ J J' l) (hk : k ∈ l) : frJ J (up2 J' k j v) l := fun k' hk' => by
  have hne : k' ≠ k := fun e => hk' (by rw [e]; exact hk)
  rw [up2_ne hne]
  exact h k' hk'
theorem frJ_tr {J J' J2 : hJ} {l l2 : List Nat} (h : frJ J J' l) (h2 : frJ J' J2 l2) (hs : ∀ k, k ∈ l2 → k ∈ l) : frJ J J2 l := fun k hk => (h2 k (fun h => hk (hs k h))).trans (h k hk)
def fsK (b : Bool) : Nat := match b with
  | true => 42
  | false => 41
abbrev e_rc : Bool → List Value := fun b => [.ref (fsK b)]
theorem v_rc (n : Nat) (h : 1 ≤ n) (x : Bool) : okv (e_rc x) ∧ (lvA (e_rc x)).length ≤ n := ⟨okv_ref okv_nil, h⟩
def e_rclear : ev := (1, 99, false, 0, 0, sn e_rc (fun _ _ _ _ _ => True) (fun b _ I J Q v I' J' Q' => v = none ∧ I' = I ∧ Q' = Q ∧ frJ J J' [fsK b] ∧ ∀ y, y < 24 → J' (fsK b) y = 0))
set_option maxRecDepth 20000 in
theorem rclear_b41 {um zm : Nat} {G : hG} {Rt : hR} {a : hA} {I : hI} {J : hJ} {Q : hQ} (cl : CL tX qX false 60 um zm [] false false kX10_clear G Rt) (hR : ∀ J', frJ J J' [41] → (∀ y, y < 24 → J' 41 y = 0) → Rt none a I J' Q) : G 0 [some (.ref 41), none] [] a I J Q := by
  have loop : ∀ d y J', d + y = 24 → frJ J J' [41] → (∀ j, j < y → J' 41 j = 0) → G 2 [some (.ref 41), some (.int (nI y))] [] a I J' Q := by
    intro d
    induction d with
    | zero =>
      intro y J' hd hf h0
      obtain rfl : y = 24 := by omega
      refine cl [2] 60 2 _ _ _ _ _ _ ?_
      exact And.intro (fun _ => hR J' hf h0) (fun h => absurd (by decide) h)
    | succ d ih =>
      intro y J' hd hf h0
      have ecy : (nI y).toNatClampNeg = y := nI_clamp (by omega)
      refine cl [2] 60 2 _ _ _ _ _ _ ?_
      refine And.intro (fun h => absurd h (nI_ge (a := y) (b := 24) (by omega) (by decide))) (fun _ => And.intro (show vp_in (nI y) 24 from vp_in_nI (by omega) (by decide)) ?_)
      have := ih (y + 1) (up2 J' 41 (nI y).toNatClampNeg 0) (by omega) (frJ_up hf (by decide)) (fun j hj => ?_)
      · rw [← nI_1 y] at this
        exact this
      · rw [ecy]
        by_cases e : j = y
        · subst e; rw [up2_at]
        · rw [up2_nej e]; exact h0 j (by omega)
  refine cl [2] 60 0 _ _ _ _ _ _ ?_
  exact loop 24 0 J rfl (frJ_refl _ _) (fun j hj => by omega)
set_option maxRecDepth 20000 in
theorem rclear_b42 {um zm : Nat} {G : hG} {Rt : hR} {a : hA} {I : hI} {J : hJ} {Q : hQ} (cl : CL tX qX false 60 um zm [] false false kX10_clear G Rt) (hR : ∀ J', frJ J J' [42] → (∀ y, y < 24 → J' 42 y = 0) → Rt none a I J' Q) : G 0 [some (.ref 42), none] [] a I J Q := by
  have loop : ∀ d y J', d + y = 24 → frJ J J' [42] → (∀ j, j < y → J' 42 j = 0) → G 2 [some (.ref 42), some (.int (nI y))] [] a I J' Q := by
    intro d
    induction d with
    | zero =>
      intro y J' hd hf h0
      obtain rfl : y = 24 := by omega
      refine cl [2] 60 2 _ _ _ _ _ _ ?_
      exact And.intro (fun _ => hR J' hf h0) (fun h => absurd (by decide) h)
    | succ d ih =>
      intro y J' hd hf h0
      have ecy : (nI y).toNatClampNeg = y := nI_clamp (by omega)
      refine cl [2] 60 2 _ _ _ _ _ _ ?_
      refine And.intro (fun h => absurd h (nI_ge (a := y) (b := 24) (by omega) (by decide))) (fun _ => And.intro (show vp_in (nI y) 24 from vp_in_nI (by omega) (by decide)) ?_)
      have := ih (y + 1) (up2 J' 42 (nI y).toNatClampNeg 0) (by omega) (frJ_up hf (by decide)) (fun j hj => ?_)
      · rw [← nI_1 y] at this
        exact this
      · rw [ecy]
        by_cases e : j = y
        · subst e; rw [up2_at]
        · rw [up2_nej e]; exact h0 j (by omega)
  refine cl [2] 60 0 _ _ _ _ _ _ ?_
  exact loop 24 0 J rfl (frJ_refl _ _) (fun j hj => by omega)
theorem c_rclear {l : Launch} : CX l cdX10_clear e_rclear := by
  refine cm_sn RX10 edX10_clear [] false kX10_clear cwX10_clear okX10_clear trivial (by decide) rfl (v_rc _ (by decide)) ?_
  intro um zm G Rt b a I J Q cl hb hp hR
  cases b with
  | true => exact rclear_b42 cl (fun J' h1 h2 => hR _ _ _ _ ⟨rfl, rfl, rfl, h1, h2⟩)
  | false => exact rclear_b41 cl (fun J' h1 h2 => hR _ _ _ _ ⟨rfl, rfl, rfl, h1, h2⟩)
/-- spread: within w of a cell on all sides -/
def sprd (F S : Nat → Nat) (w : Nat) : Prop := ∀ y, y < 24 → S y < 2 ^ 44 ∧ ∀ X, (S y).testBit X = true ↔ ∃ k x, k < 24 ∧ (F k).testBit x = true ∧ k ≤ y + w ∧ y ≤ k + w ∧ x ≤ X + w ∧ X ≤ x + w
abbrev x_so : Type := (Nat → Nat) × Nat
abbrev e_so : x_so → List Value := fun x => [.ref 31, .ref 41, .int (nI x.2)]
theorem v_so (n : Nat) (h : 3 ≤ n) (x : x_so) : okv (e_so x) ∧ (lvA (e_so x)).length ≤ n := ⟨okv_ref (okv_ref (okv_int okv_nil)), h⟩
def e_spreadO : ev := (3, 10, false, 0, 0, sn e_so (fun x _ _ J _ => ljA J 41 x.1 ∧ x.2 ≤ 3) (fun x _ I J Q v I' J' Q' => v = none ∧ I' = I ∧ Q' = Q ∧ frJ J J' [43] ∧ ∃ S, (∀ y, y < 24 → J' 43 y = lN (S y)) ∧ sprd x.1 S x.2))
theorem or_bnd {a b n : Nat} (ha : a < 2 ^ n) (hb : b < 2 ^ n) : a ||| b < 2 ^ n := Nat.or_lt_two_pow ha hb
set_option maxRecDepth 20000 in
theorem c_spreadO {l : Launch} : CX l cdX10_spreadOut e_spreadO := by
  refine cm_sn RX10 edX10_spreadOut [] false kX10_spreadOut cwX10_spreadOut okX10_spreadOut trivial (by decide) rfl (v_so _ (by decide)) ?_
  intro um zm G Rt ⟨F, w⟩ a I J Q cl hb hp hR
  obtain ⟨hF, hw⟩ := hp
  have hF : ljA J 41 F := hF
  have hw : w ≤ 3 := hw
  have hR : ∀ v I' J' Q', (v = none ∧ I' = I ∧ Q' = Q ∧ frJ J J' [43] ∧ ∃ S, (∀ y, y < 24 → J' 43 y = lN (S y)) ∧ sprd F S w) → Rt v a I' J' Q' := hR
  -- one row out of the or of the rows near it
  have l3 : ∀ d j y A W (J' : hJ), d + j = w + 1 → y < 24 → A < 2 ^ 40 → W < 2 ^ 44 → (∀ X, W.testBit X = true ↔ ∃ i, i < j ∧ ((i ≤ X ∧ A.testBit (X - i) = true) ∨ A.testBit (X + i) = true)) → (∀ W2 v8 v4, W2 < 2 ^ 44 → (∀ X, W2.testBit X = true ↔ ∃ i, i < w + 1 ∧ ((i ≤ X ∧ A.testBit (X - i) = true) ∨ A.testBit (X + i) = true)) → G 2 [some (.ref 31), some (.ref 41), some (.int (nI w)), some (.int (nI (y + 1))), some (.long v4), none, some (.long (lN W2)), none, v8] [] a I (up2 J' 43 (nI y).toNatClampNeg (lN W2)) Q) → G 61 [some (.ref 31), some (.ref 41), some (.int (nI w)), some (.int (nI y)), some (.long (lN A)), none, some (.long (lN W)), none, some (.int (nI j))] [] a I J' Q := by
    intro d
    induction d with
    | zero =>
      intro j y A W J' hd hy hA hW hX hK
      obtain rfl : j = w + 1 := by omega
      refine cl [2, 16, 46, 61] 80 61 _ _ _ _ _ _ ?_
      refine And.intro (fun _ => And.intro (show vp_in (nI y) 24 from vp_in_nI hy (by decide)) ?_) (fun h => absurd (nI_lt (a := w) (by omega) (by omega)) h)
      have := hK W (some (.int (nI (w + 1)))) (lN A) hW hX
      rw [← nI_1 y] at this
      exact this
    | succ d ih =>
      intro j y A W J' hd hy hA hW hX hK
      have es : lN W ||| ((lN A <<< ((nI j).toInt64 &&& 63)) ||| (lN A >>> ((nI j).toInt64 &&& 63))) = lN (W ||| (A * 2 ^ j ||| A / 2 ^ j)) := by
        have h1 : A * 2 ^ j < 2 ^ 44 := by
          have h3 : (2 : Nat) ^ j ≤ 2 ^ 3 := Nat.pow_le_pow_right (by decide) (by omega)
          calc A * 2 ^ j ≤ A * 2 ^ 3 := Nat.mul_le_mul_left _ h3
            _ < 2 ^ 44 := by omega
        have h2 : A / 2 ^ j < 2 ^ 44 := Nat.lt_of_le_of_lt (Nat.div_le_self _ _) (by omega)
        rw [wb_shl A (by omega), pf_shr (d := j) (s_l64 j (by omega)) (by omega), wb_or (by omega) (by omega), wb_or (by omega) (Nat.lt_of_lt_of_le (or_bnd h1 h2) (by decide))]
      have hb44 : W ||| (A * 2 ^ j ||| A / 2 ^ j) < 2 ^ 44 := by
        have h1 : A * 2 ^ j < 2 ^ 44 := by
          have h3 : (2 : Nat) ^ j ≤ 2 ^ 3 := Nat.pow_le_pow_right (by decide) (by omega)
          calc A * 2 ^ j ≤ A * 2 ^ 3 := Nat.mul_le_mul_left _ h3
            _ < 2 ^ 44 := by omega
        exact or_bnd hW (or_bnd h1 (Nat.lt_of_le_of_lt (Nat.div_le_self _ _) (by omega)))
      refine cl [2, 16, 46, 61] 80 61 _ _ _ _ _ _ ?_
      refine And.intro (fun h => absurd h (nI_nlt (a := w) (b := j) (by omega) (by omega))) (fun _ => ?_)
      have := ih (j + 1) y A (W ||| (A * 2 ^ j ||| A / 2 ^ j)) J' (by omega) hy hA hb44 (fun X => ?_) hK
      · rw [← nI_1 j, ← es] at this
        exact this
      · rw [Nat.testBit_or, Nat.testBit_or, Bool.or_eq_true, Bool.or_eq_true, hX, Nat.testBit_mul_two_pow, Nat.testBit_div_two_pow, Bool.and_eq_true, decide_eq_true_iff]
        constructor
        · rintro (⟨i, h1, h2⟩ | h)
          · exact ⟨i, by omega, h2⟩
          · exact ⟨j, by omega, h⟩
        · rintro ⟨i, h1, h2⟩
          by_cases e : i = j
          · subst e; exact Or.inr h2
          · exact Or.inl ⟨i, by omega, h2⟩
  -- the or of the rows near
  have l2 : ∀ (d : Nat) (z : Int) (y A : Nat) (v8 : Option Value) (J' : hJ), (d : Int) + z = y + w + 1 → (y : Int) - w ≤ z → y < 24 → J' 41 = J 41 → A < 2 ^ 40 → (∀ x, A.testBit x = true ↔ ∃ k : Nat, k < 24 ∧ y ≤ k + w ∧ (k : Int) < z ∧ (F k).testBit x = true) → (∀ A2, A2 < 2 ^ 40 → (∀ x, A2.testBit x = true ↔ ∃ k : Nat, k < 24 ∧ y ≤ k + w ∧ k ≤ y + w ∧ (F k).testBit x = true) → G 61 [some (.ref 31), some (.ref 41), some (.int (nI w)), some (.int (nI y)), some (.long (lN A2)), none, some (.long (lN 0)), none, some (.int (nI 0))] [] a I J' Q) → G 16 [some (.ref 31), some (.ref 41), some (.int (nI w)), some (.int (nI y)), some (.long (lN A)), none, some (.int (zI z)), none, v8] [] a I J' Q := by
    intro d
    induction d with
    | zero =>
      intro z y A v8 J' hd hz hy hJ hA hX hK
      have e1 : nI y + nI w = zI (y + w : Int) := by rw [zI_nat, zI_nat, zI_add]
      refine cl [2, 16, 46, 61] 80 16 _ _ _ _ _ _ ?_
      refine And.intro (fun _ => ?_) (fun (h : ¬ nI y + nI w < zI z) => absurd (by rw [e1, zI_lt (by omega) (by omega) (by omega) (by omega)]; omega) h)
      exact hK A hA (fun x => (hX x).trans ⟨fun ⟨k, h1, h2, h3, h4⟩ => ⟨k, h1, h2, by omega, h4⟩, fun ⟨k, h1, h2, h3, h4⟩ => ⟨k, h1, h2, by omega, h4⟩⟩)
    | succ d ih =>
      intro z y A v8 J' hd hz hy hJ hA hX hK
      have e1 : nI y + nI w = zI (y + w : Int) := by rw [zI_nat, zI_nat, zI_add]
      -- the or, whatever comes
      have g46 : ∀ v, v < 2 ^ 40 → (∀ x, v.testBit x = true ↔ ∃ k : Nat, k < 24 ∧ (k : Int) = z ∧ (F k).testBit x = true) → G 46 [some (.ref 31), some (.ref 41), some (.int (nI w)), some (.int (nI y)), some (.long (lN A)), none, some (.int (zI z)), none, v8] [.long (lN v), .long (lN A)] a I J' Q := by
        intro v hv hvx
        refine cl [2, 16, 46, 61] 80 46 _ _ _ _ _ _ ?_
        have := ih (z + 1) y (A ||| v) v8 J' (by omega) (by omega) hy hJ (or_bnd hA hv) (fun x => ?_) hK
        · rw [← wb_or (by omega) (by omega), ← zI_add] at this
          exact this
        · rw [Nat.testBit_or, Bool.or_eq_true, hX, hvx]
          constructor
          · rintro (⟨k, h1, h2, h3, h4⟩ | ⟨k, h1, h2, h3⟩)
            · exact ⟨k, h1, h2, by omega, h4⟩
            · exact ⟨k, h1, by omega, by omega, h3⟩
          · rintro ⟨k, h1, h2, h3, h4⟩
            by_cases e : (k : Int) = z
            · exact Or.inr ⟨k, h1, e, h4⟩
            · exact Or.inl ⟨k, h1, h2, by omega, h4⟩
      have gout : (z < 0 ∨ 23 < z) → G 46 [some (.ref 31), some (.ref 41), some (.int (nI w)), some (.int (nI y)), some (.long (lN A)), none, some (.int (zI z)), none, v8] [.long (lN 0), .long (lN A)] a I J' Q := fun h => g46 0 (by decide) (fun x => by
        rw [Nat.zero_testBit]
        exact ⟨fun h => (by cases h), fun ⟨k, h1, h2, _⟩ => by omega⟩)
      refine cl [2, 16, 46, 61] 80 16 _ _ _ _ _ _ ?_
      refine And.intro (fun (h : nI y + nI w < zI z) => ?_) (fun _ => And.intro (fun (h : zI z < 0) => ?_) (fun (h : ¬ zI z < 0) => And.intro (fun (h2 : zI z ≤ 23) => ?_) (fun (h2 : ¬ zI z ≤ 23) => ?_)))
      · rw [e1, zI_lt (by omega) (by omega) (by omega) (by omega)] at h
        omega
      · rw [show (0 : Int32) = zI 0 from rfl, zI_lt (by omega) (by omega) (by omega) (by omega)] at h
        exact gout (Or.inl h)
      · rw [show (0 : Int32) = zI 0 from rfl, zI_lt (by omega) (by omega) (by omega) (by omega)] at h
        rw [show (23 : Int32) = zI 23 from rfl, zI_le (by omega) (by omega) (by omega) (by omega)] at h2
        obtain ⟨k, rfl⟩ : ∃ k : Nat, z = (k : Int) := ⟨z.toNat, by omega⟩
        have e2 : zI (k : Int) = nI k := (zI_nat k).symm
        have e3 : J' 41 (zI (k : Int)).toNatClampNeg = lN (F k) := by rw [e2, nI_clamp (by omega), hJ]; exact (hF k (by omega)).1
        refine And.intro (show vp_in (zI (k : Int)) 24 from by rw [e2]; exact vp_in_nI (by omega) (by decide)) ?_
        have := g46 (F k) (hF k (by omega)).2 (fun x => ⟨fun h => ⟨k, by omega, rfl, h⟩, fun ⟨k', h1, h2, h3⟩ => by
          obtain rfl : k' = k := by omega
          exact h3⟩)
        rw [← e3] at this
        exact this
      · rw [show (23 : Int32) = zI 23 from rfl, zI_le (by omega) (by omega) (by omega) (by omega)] at h2
        exact gout (Or.inr (by omega))
  have l1 : ∀ d y (v4 : Option Value) (v6 v8 : Option Value) (S : Nat → Nat) (J' : hJ), d + y = 24 → frJ J J' [43] → (∀ j, j < y → J' 43 j = lN (S j)) → (∀ j, j < y → S j < 2 ^ 44 ∧ ∀ X, (S j).testBit X = true ↔ ∃ k x, k < 24 ∧ (F k).testBit x = true ∧ k ≤ j + w ∧ j ≤ k + w ∧ x ≤ X + w ∧ X ≤ x + w) → G 2 [some (.ref 31), some (.ref 41), some (.int (nI w)), some (.int (nI y)), v4, none, v6, none, v8] [] a I J' Q := by
    intro d
    induction d with
    | zero =>
      intro y v4 v6 v8 S J' hd hf hS hX
      obtain rfl : y = 24 := by omega
      refine cl [2, 16, 46, 61] 80 2 _ _ _ _ _ _ ?_
      exact And.intro (fun _ => hR _ _ _ _ ⟨rfl, rfl, rfl, hf, S, hS, hX⟩) (fun h => absurd (by decide) h)
    | succ d ih =>
      intro y v4 v6 v8 S J' hd hf hS hX
      have hy : y < 24 := by omega
      have ecy : (nI y).toNatClampNeg = y := nI_clamp (by omega)
      have ez : nI y - nI w = zI ((y : Int) - w) := by
        rw [zI_nat, zI_nat]
        exact (Int32.ofInt_sub _ _).symm
      refine cl [2, 16, 46, 61] 80 2 _ _ _ _ _ _ ?_
      refine And.intro (fun h => absurd h (nI_ge (a := y) (b := 24) (by omega) (by decide))) (fun _ => ?_)
      have := l2 (2 * w + 1) ((y : Int) - w) y 0 v8 J' (by omega) (by omega) hy (hf 41 (by decide)) (by decide) (fun x => by
        rw [Nat.zero_testBit]
        exact ⟨fun h => (by cases h), fun ⟨k, h1, h2, h3, _⟩ => by omega⟩) (fun A2 hA2 hA2x => ?_)
      · rw [← ez] at this
        exact this
      · refine l3 (w + 1) 0 y A2 0 J' (by omega) hy hA2 (by decide) (fun X => by
          rw [Nat.zero_testBit]
          exact ⟨fun h => (by cases h), fun ⟨k, h1, _⟩ => by omega⟩) (fun W2 v8 v4 hW2 hW2x => ?_)
        refine ih (y + 1) (some (.long v4)) (some (.long (lN W2))) v8 (fun j => if j = y then W2 else S j) (up2 J' 43 (nI y).toNatClampNeg (lN W2)) (by omega) (frJ_up hf (by decide)) (fun j hj => ?_) (fun j hj => ?_)
        · show _ = lN (if j = y then W2 else S j)
          rw [ecy]
          by_cases e : j = y
          · subst e; rw [up2_at, if_pos rfl]
          · rw [up2_nej e, if_neg e]; exact hS j (by omega)
        · show (if j = y then W2 else S j) < 2 ^ 44 ∧ ∀ X, (if j = y then W2 else S j).testBit X = true ↔ _
          by_cases e : j = y
          · subst e
            rw [if_pos rfl]
            refine ⟨hW2, fun X => ?_⟩
            rw [hW2x]
            constructor
            · rintro ⟨i, h1, h2 | h2⟩
              · obtain ⟨k, k1, k2, k3, k4⟩ := (hA2x _).mp h2.2
                exact ⟨k, X - i, k1, k4, k3, k2, by omega, by omega⟩
              · obtain ⟨k, k1, k2, k3, k4⟩ := (hA2x _).mp h2
                exact ⟨k, X + i, k1, k4, k3, k2, by omega, by omega⟩
            · rintro ⟨k, x, k1, k2, k3, k4, k5, k6⟩
              by_cases hx : x ≤ X
              · exact ⟨X - x, by omega, Or.inl ⟨by omega, (hA2x _).mpr ⟨k, k1, k4, k3, by rw [show X - (X - x) = x by omega]; exact k2⟩⟩⟩
              · exact ⟨x - X, by omega, Or.inr ((hA2x _).mpr ⟨k, k1, k4, k3, by rw [show X + (x - X) = x by omega]; exact k2⟩)⟩
          · rw [if_neg e]
            exact hX j (by omega)
  refine cl [2, 16, 46, 61] 80 0 _ _ _ _ _ _ ?_
  exact l1 24 0 none none none (fun _ => 0) J rfl (frJ_refl _ _) (fun j hj => by omega) (fun j hj => by omega)
/-! isClear -/
abbrev x_ic : Type := Bool × Nat × (Nat → Nat) × (Nat → Nat)
abbrev e_ic : x_ic → List Value := fun x => [.ref 31, .ref (fsK x.1), .int (nI x.2.1)]
theorem v_ic (n : Nat) (h : 3 ≤ n) (x : x_ic) : okv (e_ic x) ∧ (lvA (e_ic x)).length ≤ n := ⟨okv_ref (okv_ref (okv_int okv_nil)), h⟩
/-- no cell of R, shifted, meets S -/
def clrP (R S : Nat → Nat) (by' : Nat) : Prop := ∀ y, y < 24 → ∀ X, (R y).testBit X = true → (S y).testBit (X + by') = false
def e_isClear : ev := (3, 10, false, 0, 0, sn e_ic (fun x _ _ J _ => ljA J (fsK x.1) x.2.2.1 ∧ x.2.1 < 64 ∧ ∀ y, y < 24 → J 43 y = lN (x.2.2.2 y) ∧ x.2.2.2 y < 2 ^ 44) (fun x _ I J Q v I' J' Q' => I' = I ∧ J' = J ∧ Q' = Q ∧ ∃ b, v = some (.int (bI b)) ∧ (b = true ↔ clrP x.2.2.1 x.2.2.2 x.2.1)))
theorem clr_row {r s by' : Nat} (hr : r < 2 ^ 40) (hs : s < 2 ^ 44) (hb : by' < 64) : lg_cmp (lN s &&& (lN r <<< ((nI by').toInt64 &&& 63))) 0 = 0 ↔ ∀ X, r.testBit X = true → s.testBit (X + by') = false := by
  rw [lgc0]
  constructor
  · intro h X hX
    cases hq : s.testBit (X + by') with
    | false => rfl
    | true =>
      have h64 : X + by' < 64 := by have := bit_lt hs hq; omega
      have := congrArg (fun z => lb z (X + by')) h
      replace this : lb (lN s &&& (lN r <<< ((nI by').toInt64 &&& 63))) (X + by') = lb 0 (X + by') := this
      rw [lb_and, lb_lN, lb_shl by' hb _ h64, decide_eq_true h64, hq, decide_eq_true (by omega), Nat.add_sub_cancel, lb_lN, decide_eq_true (by omega), hX] at this
      rw [show lb 0 (X + by') = false from BitVec.getLsbD_zero] at this
      exact absurd this (by decide)
  · intro h
    apply lb_ext
    intro i hi
    rw [lb_and, lb_lN, lb_shl by' hb _ hi, lb_lN]
    have h0 : lb 0 i = false := BitVec.getLsbD_zero
    rw [h0, decide_eq_true hi, Bool.true_and]
    by_cases hbi : by' ≤ i
    · rw [decide_eq_true hbi, Bool.true_and]
      cases hq : r.testBit (i - by') with
      | false => rw [Bool.and_false, Bool.and_false]
      | true =>
        have := h _ hq
        rw [Nat.sub_add_cancel hbi] at this
        rw [this, Bool.false_and]
    · rw [decide_eq_false hbi, Bool.false_and, Bool.and_false]
set_option maxRecDepth 20000 in
theorem isClear_b41 {um zm : Nat} {G : hG} {Rt : hR} {by' : Nat} {R S : Nat → Nat} {a : hA} {I : hI} {J : hJ} {Q : hQ} (cl : CL tX qX false 60 um zm [] false true kX10_isClear G Rt) (hr : ljA J 41 R) (hb : by' < 64) (hS : ∀ y, y < 24 → J 43 y = lN (S y) ∧ S y < 2 ^ 44) (hR : ∀ b, (b = true ↔ clrP R S by') → Rt (some (.int (bI b))) a I J Q) : G 0 [some (.ref 31), some (.ref 41), some (.int (nI by')), none] [] a I J Q := by
  have loop : ∀ d y, d + y = 24 → (∀ j, j < y → ∀ X, (R j).testBit X = true → (S j).testBit (X + by') = false) → G 2 [some (.ref 31), some (.ref 41), some (.int (nI by')), some (.int (nI y))] [] a I J Q := by
    intro d
    induction d with
    | zero =>
      intro y hd h0
      obtain rfl : y = 24 := by omega
      refine cl [2] 60 2 _ _ _ _ _ _ ?_
      exact And.intro (fun _ => And.intro (Or.inr rfl) (hR true ⟨fun _ => h0, fun _ => rfl⟩)) (fun h => absurd (by decide) h)
    | succ d ih =>
      intro y hd h0
      have ecy : (nI y).toNatClampNeg = y := nI_clamp (by omega)
      have hin : vp_in (nI y) 24 := vp_in_nI (by omega) (by decide)
      have hc := clr_row (hr y (by omega)).2 (hS y (by omega)).2 hb
      rw [← (hr y (by omega)).1, ← (hS y (by omega)).1] at hc
      refine cl [2] 60 2 _ _ _ _ _ _ ?_
      refine And.intro (fun h => absurd h (nI_ge (a := y) (b := 24) (by omega) (by decide))) (fun _ => And.intro hin (And.intro hin (And.intro (fun (h : lg_cmp (J 43 (nI y).toNatClampNeg &&& (J 41 (nI y).toNatClampNeg <<< ((nI by').toInt64 &&& 63))) 0 = 0) => ?_) (fun (h : ¬ lg_cmp (J 43 (nI y).toNatClampNeg &&& (J 41 (nI y).toNatClampNeg <<< ((nI by').toInt64 &&& 63))) 0 = 0) => And.intro (Or.inl rfl) (hR false ?_)))))
      · rw [ecy, hc] at h
        have := ih (y + 1) (by omega) (fun j hj => by
          by_cases e : j = y
          · subst e; exact h
          · exact h0 j (by omega))
        rw [← nI_1 y] at this
        exact this
      · rw [ecy, hc] at h
        exact ⟨fun h => (by cases h), fun hp => absurd (hp y (by omega)) h⟩
  refine cl [2] 60 0 _ _ _ _ _ _ ?_
  exact loop 24 0 rfl (fun j hj => by omega)
set_option maxRecDepth 20000 in
theorem isClear_b42 {um zm : Nat} {G : hG} {Rt : hR} {by' : Nat} {R S : Nat → Nat} {a : hA} {I : hI} {J : hJ} {Q : hQ} (cl : CL tX qX false 60 um zm [] false true kX10_isClear G Rt) (hr : ljA J 42 R) (hb : by' < 64) (hS : ∀ y, y < 24 → J 43 y = lN (S y) ∧ S y < 2 ^ 44) (hR : ∀ b, (b = true ↔ clrP R S by') → Rt (some (.int (bI b))) a I J Q) : G 0 [some (.ref 31), some (.ref 42), some (.int (nI by')), none] [] a I J Q := by
  have loop : ∀ d y, d + y = 24 → (∀ j, j < y → ∀ X, (R j).testBit X = true → (S j).testBit (X + by') = false) → G 2 [some (.ref 31), some (.ref 42), some (.int (nI by')), some (.int (nI y))] [] a I J Q := by
    intro d
    induction d with
    | zero =>
      intro y hd h0
      obtain rfl : y = 24 := by omega
      refine cl [2] 60 2 _ _ _ _ _ _ ?_
      exact And.intro (fun _ => And.intro (Or.inr rfl) (hR true ⟨fun _ => h0, fun _ => rfl⟩)) (fun h => absurd (by decide) h)
    | succ d ih =>
      intro y hd h0
      have ecy : (nI y).toNatClampNeg = y := nI_clamp (by omega)
      have hin : vp_in (nI y) 24 := vp_in_nI (by omega) (by decide)
      have hc := clr_row (hr y (by omega)).2 (hS y (by omega)).2 hb
      rw [← (hr y (by omega)).1, ← (hS y (by omega)).1] at hc
      refine cl [2] 60 2 _ _ _ _ _ _ ?_
      refine And.intro (fun h => absurd h (nI_ge (a := y) (b := 24) (by omega) (by decide))) (fun _ => And.intro hin (And.intro hin (And.intro (fun (h : lg_cmp (J 43 (nI y).toNatClampNeg &&& (J 42 (nI y).toNatClampNeg <<< ((nI by').toInt64 &&& 63))) 0 = 0) => ?_) (fun (h : ¬ lg_cmp (J 43 (nI y).toNatClampNeg &&& (J 42 (nI y).toNatClampNeg <<< ((nI by').toInt64 &&& 63))) 0 = 0) => And.intro (Or.inl rfl) (hR false ?_)))))
      · rw [ecy, hc] at h
        have := ih (y + 1) (by omega) (fun j hj => by
          by_cases e : j = y
          · subst e; exact h
          · exact h0 j (by omega))
        rw [← nI_1 y] at this
        exact this
      · rw [ecy, hc] at h
        exact ⟨fun h => (by cases h), fun hp => absurd (hp y (by omega)) h⟩
  refine cl [2] 60 0 _ _ _ _ _ _ ?_
  exact loop 24 0 rfl (fun j hj => by omega)
theorem c_isClear {l : Launch} : CX l cdX10_isClear e_isClear := by
  refine cm_sn RX10 edX10_isClear [] true kX10_isClear cwX10_isClear okX10_isClear trivial (by decide) rfl (v_ic _ (by decide)) ?_
  intro um zm G Rt ⟨b, by', R, S⟩ a I J Q cl hb hp hR
  obtain ⟨h1, h2, h3⟩ := hp
  cases b with
  | true => exact isClear_b42 cl h1 h2 h3 (fun b h => hR _ _ _ _ ⟨rfl, rfl, rfl, b, rfl, h⟩)
  | false => exact isClear_b41 cl h1 h2 h3 (fun b h => hR _ _ _ _ ⟨rfl, rfl, rfl, b, rfl, h⟩)
/-! spanOf, stripOf -/
abbrev e_r41 : (Nat → Nat) → List Value := fun _ => [.ref 41]
theorem v_r41 (n : Nat) (h : 1 ≤ n) (x : Nat → Nat) : okv (e_r41 x) ∧ (lvA (e_r41 x)).length ≤ n := ⟨okv_ref okv_nil, h⟩
def orL (F : Nat → Nat) : Nat → Nat
  | 0 => 0
  | n + 1 => orL F n ||| F n
theorem orL_lt {F : Nat → Nat} (hF : ∀ y, y < 24 → F y < 2 ^ 40) : ∀ n, n ≤ 24 → orL F n < 2 ^ 40
  | 0, _ => (show 0 < 2 ^ 40 by decide)
  | n + 1, h => or_bnd (orL_lt hF n (by omega)) (hF n (by omega))
theorem orL_ge (F : Nat → Nat) (x : Nat) : ∀ n y, y < n → (F y).testBit x = true → (orL F n).testBit x = true
  | 0, y, h, _ => by omega
  | n + 1, y, h, hb => by
    show (orL F n ||| F n).testBit x = true
    rw [Nat.testBit_or, Bool.or_eq_true]
    by_cases e : y = n
    · subst e; exact Or.inr hb
    · exact Or.inl (orL_ge F x n y (by omega) hb)
def e_span : ev := (1, 99, false, 0, 0, sn e_r41 (fun F _ _ J _ => ljA J 41 F) (fun F _ I J Q v I' J' Q' => I' = I ∧ J' = J ∧ Q' = Q ∧ ∃ n, v = some (.int (nI n)) ∧ n ≤ 40 ∧ ∀ y, y < 24 → ∀ x, (F y).testBit x = true → x < n))
set_option maxRecDepth 20000 in
theorem c_span {l : Launch} : CX l cdX10_spanOf e_span := by
  refine cm_sn RX10 edX10_spanOf [] false kX10_spanOf cwX10_spanOf okX10_spanOf trivial (by decide) rfl (v_r41 _ (by decide)) ?_
  intro um zm G Rt F a I J Q cl hb hp hR
  have hF : ljA J 41 F := hp
  have hlt := orL_lt (F := F) (fun y hy => (hF y hy).2)
  have l2 : ∀ d n, d + n = 40 → G 24 [some (.ref 41), some (.long (lN (orL F 24))), none, some (.int (nI n))] [] a I J Q := by
    intro d
    induction d with
    | zero =>
      intro n hd
      obtain rfl : n = 40 := by omega
      have e : lN (orL F 24) >>> ((nI 40).toInt64 &&& 63) = lN (orL F 24 / 2 ^ 40) := pf_shr (s_l64 40 (by decide)) (by have := hlt 24 (Nat.le_refl _); omega)
      refine cl [4, 24] 60 24 _ _ _ _ _ _ ?_
      refine And.intro (fun _ => hR _ _ _ _ ⟨rfl, rfl, rfl, 40, rfl, Nat.le_refl _, fun y hy x hx => bit_lt (hF y hy).2 hx⟩) (fun (h : ¬ lg_cmp (lN (orL F 24) >>> ((nI 40).toInt64 &&& 63)) 0 = 0) => absurd ?_ h)
      rw [e, Nat.div_eq_of_lt (hlt 24 (Nat.le_refl _)), lgc0]
      rfl
    | succ d ih =>
      intro n hd
      have e : lN (orL F 24) >>> ((nI n).toInt64 &&& 63) = lN (orL F 24 / 2 ^ n) := pf_shr (s_l64 n (by omega)) (by have := hlt 24 (Nat.le_refl _); omega)
      refine cl [4, 24] 60 24 _ _ _ _ _ _ ?_
      refine And.intro (fun (h : lg_cmp (lN (orL F 24) >>> ((nI n).toInt64 &&& 63)) 0 = 0) => hR _ _ _ _ ⟨rfl, rfl, rfl, n, rfl, by omega, fun y hy x hx => ?_⟩) (fun _ => ?_)
      · rw [e, lgN (Nat.lt_of_le_of_lt (Nat.div_le_self _ _) (Nat.lt_trans (hlt 24 (Nat.le_refl _)) (by decide))), div_zero_iff] at h
        exact h x (orL_ge F x 24 y hy hx)
      · have := ih (n + 1) (by omega)
        rw [← nI_1 n] at this
        exact this
  have l1 : ∀ d y, d + y = 24 → G 4 [some (.ref 41), some (.long (lN (orL F y))), none, some (.int (nI y))] [] a I J Q := by
    intro d
    induction d with
    | zero =>
      intro y hd
      obtain rfl : y = 24 := by omega
      refine cl [4, 24] 60 4 _ _ _ _ _ _ ?_
      exact And.intro (fun _ => l2 40 0 rfl) (fun h => absurd (by decide) h)
    | succ d ih =>
      intro y hd
      have e : lN (orL F y) ||| J 41 (nI y).toNatClampNeg = lN (orL F (y + 1)) := by
        have h1 := hlt y (by omega)
        have h2 := (hF y (by omega)).2
        rw [nI_clamp (by omega), (hF y (by omega)).1, wb_or (by omega) (by omega)]
        rfl
      refine cl [4, 24] 60 4 _ _ _ _ _ _ ?_
      refine And.intro (fun h => absurd h (nI_ge (a := y) (b := 24) (by omega) (by decide))) (fun _ => And.intro (show vp_in (nI y) 24 from vp_in_nI (by omega) (by decide)) ?_)
      have := ih (y + 1) (by omega)
      rw [← nI_1 y, ← e] at this
      exact this
  refine cl [4, 24] 60 0 _ _ _ _ _ _ ?_
  exact l1 24 0 rfl
abbrev x_rs : Type := (Nat → Nat) × Nat × Nat
abbrev e_rs : x_rs → List Value := fun _ => [.ref 41]
theorem v_rs (n : Nat) (h : 1 ≤ n) (x : x_rs) : okv (e_rs x) ∧ (lvA (e_rs x)).length ≤ n := ⟨okv_ref okv_nil, h⟩
/-- the rows from lo to hi, and no other, have cells at their ends -/
def endsP (F : Nat → Nat) (lo hi : Nat) : Prop := lo ≤ hi ∧ hi < 24 ∧ F lo ≠ 0 ∧ F hi ≠ 0 ∧ ∀ y, y < 24 → F y ≠ 0 → lo ≤ y ∧ y ≤ hi
def e_rstrip : ev := (1, 99, false, 0, 0, sf e_rs (fun x _ _ J _ => ljA J 41 x.1 ∧ endsP x.1 x.2.1 x.2.2) (fun x _ _ _ _ => some (.int (nI (x.2.2 - x.2.1 + 1)))))
set_option maxRecDepth 20000 in
theorem c_rstrip {l : Launch} : CX l cdX10_stripOf e_rstrip := by
  refine cm_sf RX10 edX10_stripOf [] false kX10_stripOf cwX10_stripOf okX10_stripOf trivial (by decide) rfl (v_rs _ (by decide)) ?_
  intro um zm G Rt ⟨F, lo, hi⟩ a I J Q cl hb hp hR
  obtain ⟨hF, h1, h2, h3, h4, h5⟩ := hp
  have hF : ljA J 41 F := hF
  have h1 : lo ≤ hi := h1
  have h2 : hi < 24 := h2
  have h3 : F lo ≠ 0 := h3
  have h4 : F hi ≠ 0 := h4
  have h5 : ∀ y, y < 24 → F y ≠ 0 → lo ≤ y ∧ y ≤ hi := h5
  have hR : ∀ v, v = some (Value.int (nI (hi - lo + 1))) → Rt v a I J Q := hR
  -- least and most so far
  have loop : ∀ d y m n, d + y = 24 → m ≤ 24 → n < 24 → (y ≤ lo → m = 24) → (lo < y → m = lo) → (hi < y → n = hi) → G 7 [some (.ref 41), some (.int (nI m)), some (.int (nI n)), some (.int (nI y))] [] a I J Q := by
    intro d
    induction d with
    | zero =>
      intro y m n hd hm24 hn24 hm1 hm2 hn
      obtain rfl : y = 24 := by omega
      have := hm2 (by omega)
      have := hn (by omega)
      subst_vars
      refine cl [7, 34] 60 7 _ _ _ _ _ _ ?_
      refine And.intro (fun _ => ?_) (fun h => absurd (by decide) h)
      have := hR (some (.int (nI n - nI m + 1))) (by rw [pk_sub h1, nI_1])
      exact this
    | succ d ih =>
      intro y m n hd hm24 hn24 hm1 hm2 hn
      have ecy : (nI y).toNatClampNeg = y := nI_clamp (by omega)
      have g34 : ∀ m n, m ≤ 24 → n < 24 → (y + 1 ≤ lo → m = 24) → (lo < y + 1 → m = lo) → (hi < y + 1 → n = hi) → G 34 [some (.ref 41), some (.int (nI m)), some (.int (nI n)), some (.int (nI y))] [] a I J Q := by
        intro m n q0 q00 q1 q2 q3
        refine cl [7, 34] 60 34 _ _ _ _ _ _ ?_
        have := ih (y + 1) m n (by omega) q0 q00 q1 q2 q3
        rw [← nI_1 y] at this
        exact this
      refine cl [7, 34] 60 7 _ _ _ _ _ _ ?_
      refine And.intro (fun h => absurd h (nI_ge (a := y) (b := 24) (by omega) (by decide))) (fun _ => And.intro (show vp_in (nI y) 24 from vp_in_nI (by omega) (by decide)) (And.intro (fun (h : lg_cmp (J 41 (nI y).toNatClampNeg) 0 = 0) => ?_) (fun (h : ¬ lg_cmp (J 41 (nI y).toNatClampNeg) 0 = 0) => And.intro (fun (h6 : nI m ≤ nI y) => ?_) (fun (h6 : ¬ nI m ≤ nI y) => ?_))))
      · rw [ecy, (hF y (by omega)).1, lgN (Nat.lt_trans (hF y (by omega)).2 (by decide))] at h
        have e1 : y ≠ lo := fun e => h3 (by rw [← e]; exact h)
        have e2 : y ≠ hi := fun e => h4 (by rw [← e]; exact h)
        exact g34 m n hm24 hn24 (fun q => hm1 (by omega)) (fun q => hm2 (by omega)) (fun q => hn (by omega))
      · rw [ecy, (hF y (by omega)).1, lgN (Nat.lt_trans (hF y (by omega)).2 (by decide))] at h
        have hy := h5 y (by omega) h
        rw [nI_leI (by omega) (by omega)] at h6
        exact g34 m y hm24 (by omega) (fun q => by omega) (fun q => by
          by_cases e : y = lo
          · have := hm1 (by omega); omega
          · exact hm2 (by omega)) (fun q => by omega)
      · rw [ecy, (hF y (by omega)).1, lgN (Nat.lt_trans (hF y (by omega)).2 (by decide))] at h
        have hy := h5 y (by omega) h
        rw [nI_leI (by omega) (by omega)] at h6
        exact g34 y y (by omega) (by omega) (fun q => by omega) (fun q => by
          by_cases e : y = lo
          · exact e
          · have := hm2 (by omega); omega) (fun q => by omega)
  refine cl [7, 34] 60 0 _ _ _ _ _ _ ?_
  exact loop 24 0 24 0 rfl (Nat.le_refl _) (by decide) (fun _ => rfl) (fun q => by omega) (fun q => by omega)
