/-! REFERENCE: rows of shapes -/
def rwA (I : hI) (k o c : Nat) : Prop := ∀ y, y < 8 → I k (o + y) = nI (rowN c y)
theorem rowN_small {c y : Nat} : rowN c y < 2 ^ 31 := Nat.lt_of_lt_of_le (rowN_lt c y) (by decide)
def orR (c : Nat) : Nat → Nat
  | 0 => 0
  | n + 1 => orR c n ||| rowN c n
theorem orR_lt (c : Nat) : ∀ n, orR c n < 256
  | 0 => (show 0 < 256 by decide)
  | n + 1 => Nat.or_lt_two_pow (n := 8) (orR_lt c n) (rowN_lt c n)
theorem orR_bit (c x : Nat) : ∀ n, (orR c n).testBit x = true ↔ ∃ y, y < n ∧ (rowN c y).testBit x = true
  | 0 => by
    show (0 : Nat).testBit x = true ↔ _
    rw [Nat.zero_testBit]
    exact ⟨fun h => (by cases h), fun ⟨k, h, _⟩ => by omega⟩
  | n + 1 => by
    have ih := orR_bit c x n
    show (orR c n ||| rowN c n).testBit x = true ↔ _
    rw [Nat.testBit_or, Bool.or_eq_true, ih]
    constructor
    · rintro (⟨k, h1, h2⟩ | h1)
      · exact ⟨k, by omega, h2⟩
      · exact ⟨n, by omega, h1⟩
    · rintro ⟨k, h1, h2⟩
      by_cases e : k = n
      · subst e; exact Or.inr h2
      · exact Or.inl ⟨k, by omega, h2⟩
theorem orR8 {c : Nat} (hc : c < 2 ^ 64) (x : Nat) : (orR c 8).testBit x = true ↔ ∃ b, c.testBit b = true ∧ b % 8 = x := by
  rw [orR_bit]
  constructor
  · rintro ⟨y, hy, h⟩
    rw [rowN_bit, Bool.and_eq_true, decide_eq_true_iff] at h
    exact ⟨8 * y + x, h.2, by omega⟩
  · rintro ⟨b, hb, rfl⟩
    have := bit_lt hc hb
    refine ⟨b / 8, by omega, ?_⟩
    rw [rowN_bit, decide_eq_true (by omega), show 8 * (b / 8) + b % 8 = b by omega, hb]
    rfl
theorem row_zero {c y : Nat} (hc : c < 2 ^ 64) : rowN c y = 0 ↔ ∀ b, c.testBit b = true → b / 8 ≠ y := by
  constructor
  · intro h b hb e
    have := congrArg (fun z => z.testBit (b % 8)) h
    simp only [Nat.zero_testBit] at this
    rw [rowN_bit, decide_eq_true (by omega), show 8 * y + b % 8 = b by omega, hb] at this
    cases this
  · intro h
    apply Nat.eq_of_testBit_eq
    intro x
    rw [rowN_bit, Nat.zero_testBit]
    by_cases hx : x < 8
    · rw [decide_eq_true hx, Bool.true_and]
      cases hb : c.testBit (8 * y + x) with
      | false => rfl
      | true => exact absurd (by omega) (h _ hb)
    · rw [decide_eq_false hx, Bool.false_and]
theorem div_zero_iff {a n : Nat} : a / 2 ^ n = 0 ↔ ∀ x, a.testBit x = true → x < n := by
  constructor
  · intro h x hx
    have h1 : a < 2 ^ n := by
      rcases Nat.div_eq_zero_iff.mp h with h | h
      · have := Nat.two_pow_pos n; omega
      · exact h
    exact bit_lt h1 hx
  · intro h
    apply Nat.div_eq_of_lt
    apply Classical.byContradiction
    intro hn
    obtain ⟨x, hx⟩ := ex_bit (x := a / 2 ^ n) (fun h0 => by
      rcases Nat.div_eq_zero_iff.mp h0 with h | h
      · have := Nat.two_pow_pos n; omega
      · exact hn h)
    rw [Nat.testBit_div_two_pow] at hx
    have := h _ hx
    omega
theorem ishrN {a n : Nat} (ha : a < 2 ^ 31) (hn : n < 32) : nI a >>> (nI n &&& 31) = nI (a / 2 ^ n) := pk_shrN ha _ n (s_l n hn)
abbrev e_r36 : Nat → List Value := fun _ => [.ref 36]
theorem v_r36 (n : Nat) (h : 1 ≤ n) (x : Nat) : okv (e_r36 x) ∧ (lvA (e_r36 x)).length ≤ n := ⟨okv_ref okv_nil, h⟩
def e_rwidth : ev := (1, 99, false, 0, 0, sf e_r36 (fun c _ I _ _ => c < 2 ^ 64 ∧ c ≠ 0 ∧ rwA I 36 0 c) (fun c _ _ _ _ => some (.int (nI (widthN c)))))
set_option maxRecDepth 20000 in
theorem c_rwidth {l : Launch} : CX l cdX10_widthOf e_rwidth := by
  refine cm_sf RX10 edX10_widthOf [] false kX10_widthOf cwX10_widthOf okX10_widthOf trivial (by decide) rfl (v_r36 _ (by decide)) ?_
  intro um zm G Rt c a I J Q cl hb hp hR
  obtain ⟨hc, h0, hr⟩ := hp
  have hr : rwA I 36 0 c := hr
  have hws := width_spec hc
  have l2 : ∀ d n, d + n = widthN c → G 24 [some (.ref 36), some (.int (nI (orR c 8))), some (.int (nI n))] [] a I J Q := by
    intro d
    induction d with
    | zero =>
      intro n hd
      obtain rfl : n = widthN c := by omega
      have e := ishrN (a := orR c 8) (n := widthN c) (by have := orR_lt c 8; omega) (by omega)
      refine cl [4, 24] 60 24 _ _ _ _ _ _ ?_
      refine And.intro (fun _ => hR _ rfl) (fun (h : ¬ nI (orR c 8) >>> (nI (widthN c) &&& 31) = 0) => absurd ?_ h)
      rw [e, div_zero_iff.mpr (fun x hx => ?_)]
      · rfl
      · obtain ⟨b, hb, rfl⟩ := (orR8 hc x).mp hx
        exact hws.2.1 b hb
    | succ d ih =>
      intro n hd
      have hA := orR_lt c 8
      have e := ishrN (a := orR c 8) (n := n) (by omega) (by omega)
      refine cl [4, 24] 60 24 _ _ _ _ _ _ ?_
      refine And.intro (fun (h : nI (orR c 8) >>> (nI n &&& 31) = 0) => ?_) (fun _ => ?_)
      · rw [e, show (0 : Int32) = nI 0 from rfl, nI_eq (Nat.lt_of_le_of_lt (Nat.div_le_self _ _) (by omega)) (by decide), div_zero_iff] at h
        obtain ⟨b, hb, e2⟩ := hws.2.2 h0
        have := h _ ((orR8 hc (b % 8)).mpr ⟨b, hb, rfl⟩)
        omega
      · have := ih (n + 1) (by omega)
        rw [← nI_1 n] at this
        exact this
  have l1 : ∀ d y, d + y = 8 → G 4 [some (.ref 36), some (.int (nI (orR c y))), some (.int (nI y))] [] a I J Q := by
    intro d
    induction d with
    | zero =>
      intro y hd
      obtain rfl : y = 8 := by omega
      refine cl [4, 24] 60 4 _ _ _ _ _ _ ?_
      exact And.intro (fun _ => l2 (widthN c) 0 (by omega)) (fun h => absurd (by decide) h)
    | succ d ih =>
      intro y hd
      refine cl [4, 24] 60 4 _ _ _ _ _ _ ?_
      refine And.intro (fun h => absurd h (nI_ge (a := y) (b := 8) (by omega) (by decide))) (fun _ => And.intro (show vp_in (nI y) 8 from vp_in_nI (by omega) (by decide)) ?_)
      have := ih (y + 1) (by omega)
      have e : nI (orR c y) ||| I 36 (nI y).toNatClampNeg = nI (orR c (y + 1)) := by
        have := hr y (by omega)
        rw [Nat.zero_add] at this
        rw [nI_clamp (by omega), this, fa_or]
        rfl
      rw [← nI_1 y, ← e] at this
      exact this
  refine cl [4, 24] 60 0 _ _ _ _ _ _ ?_
  exact l1 8 0 rfl
def e_rheight : ev := (1, 99, false, 0, 0, sf e_r36 (fun c _ I _ _ => c < 2 ^ 64 ∧ c ≠ 0 ∧ rwA I 36 0 c) (fun c _ _ _ _ => some (.int (nI (heightN c)))))
set_option maxRecDepth 20000 in
theorem c_rheight {l : Launch} : CX l cdX10_heightOf e_rheight := by
  refine cm_sf RX10 edX10_heightOf [] false kX10_heightOf cwX10_heightOf okX10_heightOf trivial (by decide) rfl (v_r36 _ (by decide)) ?_
  intro um zm G Rt c a I J Q cl hb hp hR
  obtain ⟨hc, h0, hr⟩ := hp
  have hr : rwA I 36 0 c := hr
  have hhs := height_spec hc
  have loop : ∀ d n, d + heightN c = n → n ≤ 8 → G 3 [some (.ref 36), some (.int (nI n))] [] a I J Q := by
    intro d
    induction d with
    | zero =>
      intro n hd hn
      obtain rfl : n = heightN c := by omega
      have e : I 36 (nI (heightN c) - 1).toNatClampNeg = nI (rowN c (heightN c - 1)) := by
        have := hr (heightN c - 1) (by omega)
        rw [Nat.zero_add] at this
        rw [show (1 : Int32) = nI 1 from rfl, pk_sub hhs.1.1, nI_clamp (by omega), this]
      refine cl [3] 60 3 _ _ _ _ _ _ ?_
      refine And.intro (fun _ => hR _ rfl) (fun _ => And.intro (show vp_in (nI (heightN c) - 1) 8 from by rw [show (1 : Int32) = nI 1 from rfl, pk_sub hhs.1.1]; exact vp_in_nI (by omega) (by decide)) (And.intro (fun _ => hR _ rfl) (fun (h : I 36 (nI (heightN c) - 1).toNatClampNeg = 0) => ?_)))
      rw [e, show (0 : Int32) = nI 0 from rfl, nI_eq rowN_small (by decide), row_zero hc] at h
      obtain ⟨b, hb, e2⟩ := hhs.2.2 h0
      exact absurd (by omega) (h b hb)
    | succ d ih =>
      intro n hd hn
      obtain ⟨m, rfl⟩ : ∃ m, n = m + 1 := ⟨n - 1, by omega⟩
      have e : I 36 (nI (m + 1) - 1).toNatClampNeg = nI (rowN c m) := by
        have := hr m (by omega)
        rw [Nat.zero_add] at this
        rw [nI_pred, nI_clamp (by omega), this]
      refine cl [3] 60 3 _ _ _ _ _ _ ?_
      refine And.intro (fun h => absurd h (nI_nle (by omega) (by omega))) (fun _ => And.intro (show vp_in (nI (m + 1) - 1) 8 from by rw [nI_pred]; exact vp_in_nI (by omega) (by decide)) (And.intro (fun (h : ¬ I 36 (nI (m + 1) - 1).toNatClampNeg = 0) => ?_) (fun _ => ?_)))
      · refine absurd ?_ h
        rw [e, show (0 : Int32) = nI 0 from rfl, nI_eq rowN_small (by decide), row_zero hc]
        intro b hb e2
        have := hhs.2.1 b hb
        omega
      · have := ih m (by omega) (by omega)
        rw [← pk_m1 m] at this
        exact this
  refine cl [3] 60 0 _ _ _ _ _ _ ?_
  exact loop (8 - heightN c) 8 (by omega) (Nat.le_refl _)
/-- bits(v) of a row -/
theorem bits8_pop : ∀ v, v < 256 → bits8 (nI v) 8 = nI (pop8 v) := by decide +kernel
abbrev e_s1 : Nat × Nat → List Value := fun x => [.ref 31, .int (nI x.1)]
theorem v_s1 (n : Nat) (h : 2 ≤ n) (x : Nat × Nat) : okv (e_s1 x) ∧ (lvA (e_s1 x)).length ≤ n := ⟨okv_ref (okv_int okv_nil), h⟩
def popS (c : Nat) : Nat → Nat
  | 0 => 0
  | n + 1 => popS c n + pop8 (rowN c n)
theorem popS_8 (c : Nat) : popS c 8 = popN c := by
  unfold popN
  show 0 + pop8 (rowN c 0) + pop8 (rowN c 1) + pop8 (rowN c 2) + pop8 (rowN c 3) + pop8 (rowN c 4) + pop8 (rowN c 5) + pop8 (rowN c 6) + pop8 (rowN c 7) = _
  omega
theorem rwIx {s y : Nat} (hs : s < 12) (hy : y < 8) : 8 * nI s + nI y = nI (8 * s + y) := by rw [show (8 : Int32) = nI 8 from rfl, pk_mul, nI_add]
def e_cellsOf : ev := (2, 10, false, 0, 0, sf e_s1 (fun x _ I _ _ => x.1 < 12 ∧ rwA I 32 (8 * x.1) x.2) (fun x _ _ _ _ => some (.int (nI (popN x.2)))))
set_option maxRecDepth 20000 in
theorem c_cellsOf {l : Launch} : CX l cdX10_cellsOf e_cellsOf := by
  refine cm_sf RX10 edX10_cellsOf [e_bits] false kX10_cellsOf cwX10_cellsOf okX10_cellsOf ⟨⟨_, rfl, c_bits⟩, trivial⟩ (by decide) rfl (v_s1 _ (by decide)) ?_
  intro um zm G Rt ⟨s, c⟩ a I J Q cl hb hp hR
  obtain ⟨hs, hr⟩ := hp
  have hs : s < 12 := hs
  have hr : rwA I 32 (8 * s) c := hr
  have hR : ∀ v, v = some (Value.int (nI (popN c))) → Rt v a I J Q := hR
  have loop : ∀ d y, d + y = 8 → G 4 [some (.ref 31), some (.int (nI s)), some (.int (nI (popS c y))), some (.int (nI y))] [] a I J Q := by
    intro d
    induction d with
    | zero =>
      intro y hd
      obtain rfl : y = 8 := by omega
      refine cl [4] 60 4 _ _ _ _ _ _ ?_
      exact And.intro (fun _ => hR _ (by rw [popS_8])) (fun h => absurd (by decide) h)
    | succ d ih =>
      intro y hd
      have ei := rwIx (y := y) hs (by omega)
      have ev : I 32 (8 * nI s + nI y).toNatClampNeg = nI (rowN c y) := by rw [ei, nI_clamp (by omega)]; exact hr y (by omega)
      refine cl [4] 60 4 _ _ _ _ _ _ ?_
      refine And.intro (fun h => absurd h (nI_ge (a := y) (b := 8) (by omega) (by decide))) (fun _ => And.intro (show vp_in (8 * nI s + nI y) 96 from by rw [ei]; exact vp_in_nI (by omega) (by decide)) ?_)
      refine Exists.intro (I 32 (8 * nI s + nI y).toNatClampNeg) (And.intro rfl (And.intro trivial ?_))
      have := ih (y + 1) (by omega)
      have e : nI (popS c y) + bits8 (I 32 (8 * nI s + nI y).toNatClampNeg) 8 = nI (popS c (y + 1)) := by
        rw [ev, bits8_pop _ (rowN_lt c y), nI_add]
        rfl
      rw [← nI_1 y, ← e] at this
      exact this
  refine cl [4] 60 0 _ _ _ _ _ _ ?_
  exact loop 8 0 rfl
/-- whether a shape has the cell x, y, of whatever ints -/
def hcB (c : Nat) (x y : Int32) : Bool := wi x 0 7 && wi y 0 7 && c.testBit (8 * y.toNatClampNeg + x.toNatClampNeg)
abbrev x_hc : Type := Nat × Int32 × Int32 × Nat
abbrev e_hc : x_hc → List Value := fun x => [.ref 31, .int (nI x.1), .int x.2.1, .int x.2.2.1]
theorem v_hc (n : Nat) (h : 4 ≤ n) (x : x_hc) : okv (e_hc x) ∧ (lvA (e_hc x)).length ≤ n := ⟨okv_ref (okv_int (okv_int (okv_int okv_nil))), h⟩
theorem wi_nat {x : Int32} {n : Nat} (hn : n < 2 ^ 31) (h : wi x 0 (nI n) = true) : ∃ j, j ≤ n ∧ x = nI j := by
  unfold wi at h
  rw [Bool.and_eq_true, decide_eq_true_iff, decide_eq_true_iff] at h
  obtain ⟨j, hj, rfl⟩ := nI_of (Int32.not_lt.mpr h.1)
  exact ⟨j, (nI_leI hj hn).mp h.2, rfl⟩
theorem bit1 {v x : Nat} (hv : v < 2 ^ 31) (hx : x < 32) : (nI v >>> (nI x &&& 31)) &&& 1 = nI (if v.testBit x = true then 1 else 0) := by
  rw [ishrN hv hx, show (1 : Int32) = nI (2 ^ 1 - 1) from rfl, fa_mask]
  exact congrArg nI (bit_if v x)
def e_hasCell : ev := (4, 10, false, 0, 0, sf e_hc (fun x _ I _ _ => x.1 < 12 ∧ rwA I 32 (8 * x.1) x.2.2.2) (fun x _ _ _ _ => some (.int (bI (hcB x.2.2.2 x.2.1 x.2.2.1)))))
set_option maxRecDepth 20000 in
theorem c_hasCell {l : Launch} : CX l cdX10_hasCell e_hasCell := by
  refine cm_sf RX10 edX10_hasCell [e_within] true kX10_hasCell cwX10_hasCell okX10_hasCell ⟨⟨_, rfl, c_rwithin⟩, trivial⟩ (by decide) rfl (v_hc _ (by decide)) ?_
  intro um zm G Rt ⟨s, x, y, c⟩ a I J Q cl hb hp hR
  obtain ⟨hs, hr⟩ := hp
  have hs : s < 12 := hs
  have hr : rwA I 32 (8 * s) c := hr
  have hR : ∀ v, v = some (Value.int (bI (hcB c x y))) → Rt v a I J Q := hR
  refine cl [] 60 0 _ _ _ _ _ _ ?_
  refine Exists.intro (x, 0, 7) (And.intro rfl (And.intro trivial ?_))
  refine bI_cases' (wi x 0 7) (fun hx => ?_) (fun hx => And.intro (Or.inl rfl) (hR _ (by unfold hcB; rw [hx]; rfl)))
  refine Exists.intro (y, 0, 7) (And.intro rfl (And.intro trivial ?_))
  refine bI_cases' (wi y 0 7) (fun hy => ?_) (fun hy => And.intro (Or.inl rfl) (hR _ (by unfold hcB; rw [hx, hy]; rfl)))
  have hh : hcB c x y = c.testBit (8 * y.toNatClampNeg + x.toNatClampNeg) := by unfold hcB; rw [hx, hy]; rfl
  obtain ⟨i, hi, rfl⟩ := wi_nat (n := 7) (by decide) hx
  obtain ⟨j, hj, rfl⟩ := wi_nat (n := 7) (by decide) hy
  rw [nI_clamp (by omega), nI_clamp (by omega)] at hh
  have ei := rwIx (y := j) hs (by omega)
  have ev : I 32 (8 * nI s + nI j).toNatClampNeg = nI (rowN c j) := by rw [ei, nI_clamp (by omega)]; exact hr j (by omega)
  have eb : (I 32 (8 * nI s + nI j).toNatClampNeg >>> (nI i &&& 31)) &&& 1 = nI (if c.testBit (8 * j + i) = true then 1 else 0) := by
    rw [ev, bit1 rowN_small (by omega), rowN_bit, decide_eq_true (by omega), Bool.true_and]
  refine And.intro (show vp_in (8 * nI s + nI j) 96 from by rw [ei]; exact vp_in_nI (by omega) (by decide)) ?_
  refine And.intro (fun (h : ¬ (I 32 (8 * nI s + nI j).toNatClampNeg >>> (nI i &&& 31)) &&& 1 = 1) => And.intro (Or.inl rfl) (hR _ ?_)) (fun (h : (I 32 (8 * nI s + nI j).toNatClampNeg >>> (nI i &&& 31)) &&& 1 = 1) => And.intro (Or.inr rfl) (hR _ ?_))
  · rw [eb] at h
    rw [hh]
    cases hb : c.testBit (8 * j + i) with
    | false => rfl
    | true => rw [hb] at h; exact absurd rfl h
  · rw [eb] at h
    rw [hh]
    cases hb : c.testBit (8 * j + i) with
    | true => rfl
    | false => rw [hb] at h; exact absurd h (by decide)
