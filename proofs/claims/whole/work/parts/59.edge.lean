/-! EDGE -/
def cLt (c x y : Nat) : Bool := decide (0 < x) && c.testBit (8 * y + (x - 1))
def cRt (c x y : Nat) : Bool := decide (x < 7) && c.testBit (8 * y + (x + 1))
def cUp (c x y : Nat) : Bool := decide (0 < y) && c.testBit (8 * (y - 1) + x)
def cDn (c x y : Nat) : Bool := decide (y < 7) && c.testBit (8 * (y + 1) + x)
def n1 (b : Bool) : Nat := match b with
  | true => 0
  | false => 1
def edC (c x y : Nat) : Nat := if c.testBit (8 * y + x) = true then n1 (cLt c x y) + n1 (cRt c x y) + n1 (cUp c x y) + n1 (cDn c x y) else 0
def edR (c y : Nat) : Nat → Nat
  | 0 => 0
  | x + 1 => edR c y x + edC c x y
def edS (c : Nat) : Nat → Nat
  | 0 => 0
  | y + 1 => edS c y + edR c y 8
theorem edC_le (c x y : Nat) : edC c x y ≤ 4 := by
  have : ∀ b, n1 b ≤ 1 := fun b => by cases b <;> decide
  have h1 := this (cLt c x y)
  have h2 := this (cRt c x y)
  have h3 := this (cUp c x y)
  have h4 := this (cDn c x y)
  unfold edC
  split <;> omega
theorem edR_le (c y : Nat) : ∀ x, edR c y x ≤ 4 * x
  | 0 => Nat.le_refl _
  | x + 1 => by
    have := edR_le c y x
    have := edC_le c x y
    show edR c y x + edC c x y ≤ _
    omega
theorem edS_le (c : Nat) : ∀ y, edS c y ≤ 32 * y
  | 0 => Nat.le_refl _
  | y + 1 => by
    have := edS_le c y
    have := edR_le c y 8
    show edS c y + edR c y 8 ≤ _
    omega
theorem cnt_split (P Q : Nat → Bool) : ∀ n, fa_cnt (fun x => P x && Q x) n + fa_cnt (fun x => P x && !Q x) n = fa_cnt P n
  | 0 => rfl
  | n + 1 => by
    have ih := cnt_split P Q n
    unfold fa_cnt
    cases hp : P n <;> cases hq : Q n <;> simp <;> omega
theorem cnt_shift (P : Nat → Bool) : ∀ n, fa_cnt (fun x => decide (0 < x) && P (x - 1)) (n + 1) = fa_cnt P n
  | 0 => rfl
  | n + 1 => by
    have ih := cnt_shift P n
    rw [fa_cnt, ih, fa_cnt]
    simp
theorem pop8_cnt (b : Nat) : pop8 b = fa_cnt (fun x => b.testBit x) 8 := by
  unfold pop8
  have e : ∀ x, b / 2 ^ x % 2 = if b.testBit x = true then 1 else 0 := bit_if b
  have e0 := e 0
  have e1 := e 1
  have e2 := e 2
  have e3 := e 3
  have e4 := e 4
  have e5 := e 5
  have e6 := e 6
  have e7 := e 7
  simp only [Nat.reducePow, Nat.div_one] at e0 e1 e2 e3 e4 e5 e6 e7
  rw [e0, e1, e2, e3, e4, e5, e6, e7]
  simp only [fa_cnt]
  omega
theorem edR_cnt (c y : Nat) : ∀ n, edR c y n = fa_cnt (fun x => c.testBit (8 * y + x) && !cLt c x y) n + fa_cnt (fun x => c.testBit (8 * y + x) && !cRt c x y) n + fa_cnt (fun x => c.testBit (8 * y + x) && !cUp c x y) n + fa_cnt (fun x => c.testBit (8 * y + x) && !cDn c x y) n
  | 0 => rfl
  | n + 1 => by
    have ih := edR_cnt c y n
    show edR c y n + edC c n y = _
    rw [ih]
    simp only [fa_cnt]
    unfold edC
    have key : ∀ (p l r u d : Bool) (A B C D : Nat), (A + B + C + D + if p = true then n1 l + n1 r + n1 u + n1 d else 0) = (A + if (p && !l) = true then 1 else 0) + (B + if (p && !r) = true then 1 else 0) + (C + if (p && !u) = true then 1 else 0) + (D + if (p && !d) = true then 1 else 0) := by
      intro p l r u d A B C D
      cases p <;> cases l <;> cases r <;> cases u <;> cases d <;> simp [n1] <;> omega
    exact key _ _ _ _ _ _ _ _ _
theorem c7N_bit {i : Nat} (hi : i < 64) : (9187201950435737471 : Nat).testBit i = decide (i % 8 ≠ 7) := (by decide +kernel : ∀ i, i < 64 → (9187201950435737471 : Nat).testBit i = decide (i % 8 ≠ 7)) i hi
/-- the rows' counts of neighbours -/
theorem ed_row {c y : Nat} (hc : c < 2 ^ 64) (hy : y < 8) : edR c y 8 + 2 * pop8 (rowN (c &&& c / 2 ^ 1 &&& 9187201950435737471) y) + (fa_cnt (fun x => c.testBit (8 * y + x) && cUp c x y) 8 + pop8 (rowN (c &&& c / 2 ^ 8) y)) = 4 * pop8 (rowN c y) := by
  have s1 := cnt_split (fun x => c.testBit (8 * y + x)) (fun x => cLt c x y) 8
  have s2 := cnt_split (fun x => c.testBit (8 * y + x)) (fun x => cRt c x y) 8
  have s3 := cnt_split (fun x => c.testBit (8 * y + x)) (fun x => cUp c x y) 8
  have s4 := cnt_split (fun x => c.testBit (8 * y + x)) (fun x => cDn c x y) 8
  have er := edR_cnt c y 8
  have ep : pop8 (rowN c y) = fa_cnt (fun x => c.testBit (8 * y + x)) 8 := by
    rw [pop8_cnt]
    exact fa_cnt_cong (fun x hx => by rw [rowN_bit, decide_eq_true hx, Bool.true_and])
  have eh : pop8 (rowN (c &&& c / 2 ^ 1 &&& 9187201950435737471) y) = fa_cnt (fun x => c.testBit (8 * y + x) && cRt c x y) 8 := by
    rw [pop8_cnt]
    refine fa_cnt_cong (fun x hx => ?_)
    rw [rowN_bit, decide_eq_true hx, Bool.true_and, Nat.testBit_and, Nat.testBit_and, Nat.testBit_div_two_pow, c7N_bit (by omega)]
    unfold cRt
    rw [show 8 * y + x + 1 = 8 * y + (x + 1) by omega]
    by_cases h7 : x = 7
    · rw [decide_eq_false (by omega), decide_eq_false (show ¬ x < 7 by omega), Bool.and_false, Bool.false_and, Bool.and_false]
    · rw [decide_eq_true (by omega), decide_eq_true (show x < 7 by omega), Bool.and_true, Bool.true_and]
  have el : fa_cnt (fun x => c.testBit (8 * y + x) && cLt c x y) 8 = fa_cnt (fun x => c.testBit (8 * y + x) && cRt c x y) 8 := by
    have e1 : fa_cnt (fun x => c.testBit (8 * y + x) && cLt c x y) 8 = fa_cnt (fun x => decide (0 < x) && (fun x => c.testBit (8 * y + (x + 1)) && c.testBit (8 * y + x)) (x - 1)) (7 + 1) := fa_cnt_cong (fun x hx => by
      unfold cLt
      cases x with
      | zero => simp
      | succ x => simp)
    have e2 : fa_cnt (fun x => c.testBit (8 * y + x) && cRt c x y) 8 = fa_cnt (fun x => c.testBit (8 * y + (x + 1)) && c.testBit (8 * y + x)) 7 := by
      rw [fa_cnt]
      rw [if_neg (by unfold cRt; simp), Nat.add_zero]
      exact fa_cnt_cong (fun x hx => by unfold cRt; rw [decide_eq_true hx, Bool.true_and, Bool.and_comm])
    exact (e1.trans (cnt_shift (fun x => c.testBit (8 * y + (x + 1)) && c.testBit (8 * y + x)) 7)).trans e2.symm
  have ev : pop8 (rowN (c &&& c / 2 ^ 8) y) = fa_cnt (fun x => c.testBit (8 * y + x) && cDn c x y) 8 := by
    rw [pop8_cnt]
    refine fa_cnt_cong (fun x hx => ?_)
    rw [rowN_bit, decide_eq_true hx, Bool.true_and, Nat.testBit_and, Nat.testBit_div_two_pow]
    unfold cDn
    rw [show 8 * y + x + 8 = 8 * (y + 1) + x by omega]
    by_cases h7 : y = 7
    · have : c.testBit (8 * (y + 1) + x) = false := by
        cases h : c.testBit (8 * (y + 1) + x) with
        | false => rfl
        | true => have := bit_lt hc h; omega
      rw [this, Bool.and_false, Bool.and_false, Bool.and_false]
    · rw [decide_eq_true (show y < 7 by omega), Bool.true_and]
  rw [ep, eh, ev, er]
  omega
theorem ed_up (c y : Nat) (hc : c < 2 ^ 64) (hy : y < 7) : fa_cnt (fun x => c.testBit (8 * (y + 1) + x) && cUp c x (y + 1)) 8 = pop8 (rowN (c &&& c / 2 ^ 8) y) := by
  rw [pop8_cnt]
  refine fa_cnt_cong (fun x hx => ?_)
  rw [rowN_bit, decide_eq_true hx, Bool.true_and, Nat.testBit_and, Nat.testBit_div_two_pow]
  unfold cUp
  rw [decide_eq_true (by omega), Bool.true_and, show 8 * y + x + 8 = 8 * (y + 1) + x by omega, Nat.add_sub_cancel, Bool.and_comm]
theorem ed_eq {c : Nat} (hc : c < 2 ^ 64) : edS c 8 + 2 * (popN (c &&& c / 2 ^ 8) + popN (c &&& c / 2 ^ 1 &&& 9187201950435737471)) = 4 * popN c := by
  have r0 := ed_row (y := 0) hc (by decide)
  have r1 := ed_row (y := 1) hc (by decide)
  have r2 := ed_row (y := 2) hc (by decide)
  have r3 := ed_row (y := 3) hc (by decide)
  have r4 := ed_row (y := 4) hc (by decide)
  have r5 := ed_row (y := 5) hc (by decide)
  have r6 := ed_row (y := 6) hc (by decide)
  have r7 := ed_row (y := 7) hc (by decide)
  have u0 : fa_cnt (fun x => c.testBit (8 * 0 + x) && cUp c x 0) 8 = 0 := by
    have := fa_cnt_cong (p := fun x => c.testBit (8 * 0 + x) && cUp c x 0) (q := fun _ => false) (n := 8) (fun x _ => by unfold cUp; simp)
    rw [this]
    decide
  have u1 := ed_up c 0 hc (by decide)
  have u2 := ed_up c 1 hc (by decide)
  have u3 := ed_up c 2 hc (by decide)
  have u4 := ed_up c 3 hc (by decide)
  have u5 := ed_up c 4 hc (by decide)
  have u6 := ed_up c 5 hc (by decide)
  have u7 := ed_up c 6 hc (by decide)
  have v7 : pop8 (rowN (c &&& c / 2 ^ 8) 7) = 0 := by
    have : rowN (c &&& c / 2 ^ 8) 7 = 0 := by
      apply Nat.eq_of_testBit_eq
      intro x
      rw [rowN_bit, Nat.testBit_and, Nat.testBit_div_two_pow, Nat.zero_testBit]
      have : c.testBit (8 * 7 + x + 8) = false := by
        cases h : c.testBit (8 * 7 + x + 8) with
        | false => rfl
        | true => have := bit_lt hc h; omega
      rw [this, Bool.and_false, Bool.and_false]
    rw [this]
    decide
  have es : edS c 8 = edR c 0 8 + edR c 1 8 + edR c 2 8 + edR c 3 8 + edR c 4 8 + edR c 5 8 + edR c 6 8 + edR c 7 8 := by
    show 0 + edR c 0 8 + edR c 1 8 + edR c 2 8 + edR c 3 8 + edR c 4 8 + edR c 5 8 + edR c 6 8 + edR c 7 8 = _
    omega
  simp only [Nat.zero_add, Nat.reduceAdd] at u1 u2 u3 u4 u5 u6 u7
  rw [es]
  unfold popN
  omega
/-! the reference's edgeOf -/
theorem hc_in {c x y : Nat} (hx : x < 8) (hy : y < 8) : hcB c (nI x) (nI y) = c.testBit (8 * y + x) := by
  have hwi : ∀ z, z < 8 → wi (nI z) 0 7 = true := fun z hz => wi_in (nI_pos (by omega)) (nI_nlt (a := 7) (by omega) (by decide))
  unfold hcB
  rw [hwi x hx, hwi y hy, nI_clamp (by omega), nI_clamp (by omega)]
  rfl
theorem hc_l {c x y : Nat} (hx : x < 8) (hy : y < 8) : hcB c (nI x - 1) (nI y) = cLt c x y := by
  cases x with
  | zero =>
    unfold hcB cLt
    rw [wi_lo (show nI 0 - 1 < 0 by decide)]
    rfl
  | succ x =>
    rw [nI_pred, hc_in (by omega) hy]
    unfold cLt
    rw [decide_eq_true (by omega)]
    rfl
theorem hc_r {c x y : Nat} (hx : x < 8) (hy : y < 8) : hcB c (nI x + 1) (nI y) = cRt c x y := by
  rw [nI_1]
  by_cases h7 : x = 7
  · subst h7
    unfold hcB cRt
    rw [wi_hi (show (7 : Int32) < nI (7 + 1) by decide)]
    rfl
  · rw [hc_in (by omega) hy]
    unfold cRt
    rw [decide_eq_true (by omega)]
    rfl
theorem hc_u {c x y : Nat} (hx : x < 8) (hy : y < 8) : hcB c (nI x) (nI y - 1) = cUp c x y := by
  cases y with
  | zero =>
    unfold hcB cUp
    rw [wi_lo (show nI 0 - 1 < 0 by decide), Bool.and_false]
    rfl
  | succ y =>
    rw [nI_pred, hc_in hx (by omega)]
    unfold cUp
    rw [decide_eq_true (by omega)]
    rfl
theorem hc_d {c x y : Nat} (hx : x < 8) (hy : y < 8) : hcB c (nI x) (nI y + 1) = cDn c x y := by
  rw [nI_1]
  by_cases h7 : y = 7
  · subst h7
    unfold hcB cDn
    rw [wi_hi (show (7 : Int32) < nI (7 + 1) by decide), Bool.and_false]
    rfl
  · rw [hc_in hx (by omega)]
    unfold cDn
    rw [decide_eq_true (by omega)]
    rfl
def e_edgeOf : ev := (2, 10, false, 0, 0, sf e_s1 (fun x _ I _ _ => x.1 < 12 ∧ rwA I 32 (8 * x.1) x.2) (fun x _ _ _ _ => some (.int (nI (edS x.2 8)))))
set_option maxRecDepth 20000 in
theorem c_edgeOf {l : Launch} : CX l cdX10_edgeOf e_edgeOf := by
  refine cm_sf RX10 edX10_edgeOf [e_hasCell] false kX10_edgeOf cwX10_edgeOf okX10_edgeOf ⟨⟨_, rfl, c_hasCell⟩, trivial⟩ (by decide) rfl (v_s1 _ (by decide)) ?_
  intro um zm G Rt ⟨s, c⟩ a I J Q cl hb hp hR
  obtain ⟨hs, hr⟩ := hp
  have hs : s < 12 := hs
  have hr : rwA I 32 (8 * s) c := hr
  have hR : ∀ v, v = some (Value.int (nI (edS c 8))) → Rt v a I J Q := hR
  have hpre : s < 12 ∧ rwA I 32 (8 * s) c := ⟨hs, hr⟩
  have l2 : ∀ d x y, d + x = 8 → y < 8 → (∀ v4, G 4 [some (.ref 31), some (.int (nI s)), some (.int (nI (edS c (y + 1)))), some (.int (nI (y + 1))), v4] [] a I J Q) → G 13 [some (.ref 31), some (.int (nI s)), some (.int (nI (edS c y + edR c y x))), some (.int (nI y)), some (.int (nI x))] [] a I J Q := by
    intro d
    induction d with
    | zero =>
      intro x y hd hy hK
      obtain rfl : x = 8 := by omega
      refine cl [4, 13, 50, 71, 92, 113, 115] 90 13 _ _ _ _ _ _ ?_
      refine And.intro (fun _ => ?_) (fun h => absurd (by decide) h)
      have := hK (some (.int (nI 8)))
      rw [← nI_1 y] at this
      exact this
    | succ d ih =>
      intro x y hd hy hK
      have hx : x < 8 := by omega
      have next : ∀ n, n = edS c y + edR c y (x + 1) → G 115 [some (.ref 31), some (.int (nI s)), some (.int (nI n)), some (.int (nI y)), some (.int (nI x))] [] a I J Q := by
        intro n hn
        have := ih (x + 1) y (by omega) hy hK
        rw [← hn] at this
        refine cl [4, 13, 50, 71, 92, 113, 115] 90 115 _ _ _ _ _ _ ?_
        rw [← nI_1 x] at this
        exact this
      have g113 : ∀ n m, n + m = edS c y + edR c y (x + 1) → G 113 [some (.ref 31), some (.int (nI s)), some (.int (nI n)), some (.int (nI y)), some (.int (nI x))] [.int (nI m), .int (nI n)] a I J Q := by
        intro n m hn
        refine cl [4, 13, 50, 71, 92, 113, 115] 90 113 _ _ _ _ _ _ ?_
        have := next (n + m) hn
        rw [← nI_add] at this
        exact this
      have g92 : ∀ n m, n + m + n1 (cDn c x y) = edS c y + edR c y (x + 1) → G 92 [some (.ref 31), some (.int (nI s)), some (.int (nI n)), some (.int (nI y)), some (.int (nI x))] [.int (nI m), .int (nI n)] a I J Q := by
        intro n m hn
        refine cl [4, 13, 50, 71, 92, 113, 115] 90 92 _ _ _ _ _ _ ?_
        refine Exists.intro (s, nI x, nI y + 1, c) (And.intro rfl (And.intro hpre ?_))
        refine bI_cases' (hcB c (nI x) (nI y + 1)) (fun hbit => ?_) (fun hbit => ?_)
        · rw [hc_d hx hy] at hbit
          have := g113 (n + m) 0 (by rw [← hn, hbit]; rfl)
          rw [← nI_add] at this
          exact this
        · rw [hc_d hx hy] at hbit
          have := g113 (n + m) 1 (by rw [← hn, hbit]; rfl)
          rw [← nI_add] at this
          exact this
      have g71 : ∀ n m, n + m + n1 (cUp c x y) + n1 (cDn c x y) = edS c y + edR c y (x + 1) → G 71 [some (.ref 31), some (.int (nI s)), some (.int (nI n)), some (.int (nI y)), some (.int (nI x))] [.int (nI m), .int (nI n)] a I J Q := by
        intro n m hn
        refine cl [4, 13, 50, 71, 92, 113, 115] 90 71 _ _ _ _ _ _ ?_
        refine Exists.intro (s, nI x, nI y - 1, c) (And.intro rfl (And.intro hpre ?_))
        refine bI_cases' (hcB c (nI x) (nI y - 1)) (fun hbit => ?_) (fun hbit => ?_)
        · rw [hc_u hx hy] at hbit
          have := g92 (n + m) 0 (by rw [← hn, hbit]; rfl)
          rw [← nI_add] at this
          exact this
        · rw [hc_u hx hy] at hbit
          have := g92 (n + m) 1 (by rw [← hn, hbit]; rfl)
          rw [← nI_add] at this
          exact this
      have g50 : ∀ n m, n + m + n1 (cRt c x y) + n1 (cUp c x y) + n1 (cDn c x y) = edS c y + edR c y (x + 1) → G 50 [some (.ref 31), some (.int (nI s)), some (.int (nI n)), some (.int (nI y)), some (.int (nI x))] [.int (nI m), .int (nI n)] a I J Q := by
        intro n m hn
        refine cl [4, 13, 50, 71, 92, 113, 115] 90 50 _ _ _ _ _ _ ?_
        refine Exists.intro (s, nI x + 1, nI y, c) (And.intro rfl (And.intro hpre ?_))
        refine bI_cases' (hcB c (nI x + 1) (nI y)) (fun hbit => ?_) (fun hbit => ?_)
        · rw [hc_r hx hy] at hbit
          have := g71 (n + m) 0 (by rw [← hn, hbit]; rfl)
          rw [← nI_add] at this
          exact this
        · rw [hc_r hx hy] at hbit
          have := g71 (n + m) 1 (by rw [← hn, hbit]; rfl)
          rw [← nI_add] at this
          exact this
      refine cl [4, 13, 50, 71, 92, 113, 115] 90 13 _ _ _ _ _ _ ?_
      refine And.intro (fun h => absurd h (nI_ge (a := x) (b := 8) (by omega) (by decide))) (fun _ => ?_)
      refine Exists.intro (s, nI x, nI y, c) (And.intro rfl (And.intro hpre ?_))
      have hcell := hc_in (c := c) hx hy
      refine bI_cases' (hcB c (nI x) (nI y)) (fun hbit => ?_) (fun hbit => ?_)
      · rw [hcell] at hbit
        have htot : edS c y + edR c y x + n1 (cLt c x y) + n1 (cRt c x y) + n1 (cUp c x y) + n1 (cDn c x y) = edS c y + edR c y (x + 1) := by
          show _ = edS c y + (edR c y x + edC c x y)
          unfold edC
          rw [if_pos hbit]
          omega
        refine Exists.intro (s, nI x - 1, nI y, c) (And.intro rfl (And.intro hpre ?_))
        refine bI_cases' (hcB c (nI x - 1) (nI y)) (fun hb2 => ?_) (fun hb2 => ?_)
        · rw [hc_l hx hy] at hb2
          exact g50 (edS c y + edR c y x) 0 (by rw [← htot, hb2]; rfl)
        · rw [hc_l hx hy] at hb2
          exact g50 (edS c y + edR c y x) 1 (by rw [← htot, hb2]; rfl)
      · rw [hcell] at hbit
        exact next (edS c y + edR c y x) (by
          show _ = edS c y + (edR c y x + edC c x y)
          unfold edC
          rw [if_neg (by rw [hbit]; decide)]
          rfl)
  have l1 : ∀ d y (v4 : Option Value), d + y = 8 → G 4 [some (.ref 31), some (.int (nI s)), some (.int (nI (edS c y))), some (.int (nI y)), v4] [] a I J Q := by
    intro d
    induction d with
    | zero =>
      intro y v4 hd
      obtain rfl : y = 8 := by omega
      refine cl [4, 13, 50, 71, 92, 113, 115] 90 4 _ _ _ _ _ _ ?_
      exact And.intro (fun _ => hR _ rfl) (fun h => absurd (by decide) h)
    | succ d ih =>
      intro y v4 hd
      refine cl [4, 13, 50, 71, 92, 113, 115] 90 4 _ _ _ _ _ _ ?_
      refine And.intro (fun h => absurd h (nI_ge (a := y) (b := 8) (by omega) (by decide))) (fun _ => ?_)
      exact l2 8 0 y rfl (by omega) (fun v4 => ih (y + 1) v4 (by omega))
  refine cl [4, 13, 50, 71, 92, 113, 115] 90 0 _ _ _ _ _ _ ?_
  exact l1 8 0 none rfl
/-! the class's cellCount, edge -/
def e_ccount : ev := (1, 7, false, 0, 0, sf e_k1 (fun x a I J _ => shp a I J x.1 x.2) (fun x _ _ _ _ => some (.int (nI (popN x.2)))))
set_option maxRecDepth 20000 in
theorem c_ccount {l : Launch} : CX l cdX7_cellCount e_ccount := by
  refine cm_sf RX7 edX7_cellCount [e_lbc] false kX7_cellCount cwX7_cellCount okX7_cellCount ⟨⟨_, rfl, c_lbc⟩, trivial⟩ (by decide) rfl (v_k1 _ (by decide)) ?_
  intro um zm G Rt ⟨k, c⟩ a I J Q cl hb hp hR
  obtain ⟨ho, hj, hc⟩ := hp
  have hj : J k 0 = lN c := hj
  have ho : isOb a k 7 := ho
  refine cl [] 60 0 _ _ _ _ _ _ ?_
  refine cko (isOb_ck ho) ?_
  refine Exists.intro c (And.intro (show [Value.long (J k 0)] = [Value.long (lN c)] by rw [hj]) (And.intro hc ?_))
  exact hR _ rfl
def e_edge : ev := (1, 7, false, 0, 0, sf e_k1 (fun x a I J _ => shp a I J x.1 x.2) (fun x _ _ _ _ => some (.int (nI (edS x.2 8)))))
set_option maxRecDepth 20000 in
theorem c_edge {l : Launch} : CX l cdX7_edge e_edge := by
  refine cm_sf RX7 edX7_edge [e_lbc, e_ccount] false kX7_edge cwX7_edge okX7_edge ⟨⟨_, rfl, c_lbc⟩, ⟨_, rfl, c_ccount⟩, trivial⟩ (by decide) rfl (v_k1 _ (by decide)) ?_
  intro um zm G Rt ⟨k, c⟩ a I J Q cl hb hp hR
  obtain ⟨ho, hj, hc⟩ := hp
  have hj : J k 0 = lN c := hj
  have ho : isOb a k 7 := ho
  have hc : c < 2 ^ 64 := hc
  have hR : ∀ v, v = some (Value.int (nI (edS c 8))) → Rt v a I J Q := hR
  have e1 : J k 0 &&& ((J k 0).toUInt64 >>> ((8 : Int32).toInt64.toUInt64 &&& Int64.toUInt64 63)).toInt64 = lN (c &&& c / 2 ^ 8) := by
    rw [hj, show (8 : Int32) = nI 8 from rfl, wb_shr hc (by decide), wb_and hc (Nat.lt_of_le_of_lt (Nat.div_le_self _ _) hc)]
  have hl1 : c &&& c / 2 ^ 8 < 2 ^ 64 := Nat.lt_of_le_of_lt Nat.and_le_left hc
  have hl2 : c &&& c / 2 ^ 1 < 2 ^ 64 := Nat.lt_of_le_of_lt Nat.and_le_left hc
  have hl3 : c &&& c / 2 ^ 1 &&& 9187201950435737471 < 2 ^ 64 := Nat.lt_of_le_of_lt Nat.and_le_left hl2
  have e2 : J k 0 &&& ((J k 0).toUInt64 >>> ((1 : Int32).toInt64.toUInt64 &&& Int64.toUInt64 63)).toInt64 &&& 9187201950435737471 = lN (c &&& c / 2 ^ 1 &&& 9187201950435737471) := by
    rw [hj, show (1 : Int32) = nI 1 from rfl, wb_shr hc (by decide), wb_and hc (Nat.lt_of_le_of_lt (Nat.div_le_self _ _) hc), show (9187201950435737471 : Int64) = lN 9187201950435737471 from rfl, wb_and hl2 (by decide)]
  refine cl [] 60 0 _ _ _ _ _ _ ?_
  refine cko (isOb_ck ho) (cko (isOb_ck ho) ?_)
  refine Exists.intro (c &&& c / 2 ^ 8) (And.intro (show [Value.long _] = [Value.long _] from congrArg (fun z => [Value.long z]) e1) (And.intro hl1 ?_))
  refine cko (isOb_ck ho) (cko (isOb_ck ho) ?_)
  refine Exists.intro (c &&& c / 2 ^ 1 &&& 9187201950435737471) (And.intro (show [Value.long _] = [Value.long _] from congrArg (fun z => [Value.long z]) e2) (And.intro hl3 ?_))
  refine vko ho rfl ?_
  refine Exists.intro (k, c) (And.intro rfl (And.intro ⟨ho, hj, hc⟩ ?_))
  have := hR (some (.int (4 * nI (popN c) - 2 * (nI (popN (c &&& c / 2 ^ 8)) + nI (popN (c &&& c / 2 ^ 1 &&& 9187201950435737471)))))) (by
    have he := ed_eq hc
    rw [show (4 : Int32) = nI 4 from rfl, show (2 : Int32) = nI 2 from rfl, pk_mul, nI_add, pk_mul, pk_sub (by omega)]
    exact congrArg (fun z => some (Value.int (nI z))) (by omega))
  exact this
