/-! the reference's turnOf -/
theorem mod_step (v x : Nat) : v % 2 ^ x ||| (if v.testBit x = true then 1 else 0) * 2 ^ x = v % 2 ^ (x + 1) := by
  apply Nat.eq_of_testBit_eq
  intro i
  rw [Nat.testBit_or, Nat.testBit_mod_two_pow, Nat.testBit_mod_two_pow, Nat.testBit_mul_two_pow]
  rcases Nat.lt_trichotomy i x with h | rfl | h
  · rw [decide_eq_true h, decide_eq_true (show i < x + 1 by omega), decide_eq_false (show ¬ x ≤ i by omega), Bool.true_and, Bool.false_and, Bool.or_false]
  · rw [decide_eq_false (Nat.lt_irrefl i), decide_eq_true (show i < i + 1 by omega), decide_eq_true (Nat.le_refl i), Nat.sub_self]
    cases hv : v.testBit i <;> rfl
  · rw [decide_eq_false (show ¬ i < x by omega), decide_eq_false (show ¬ i < x + 1 by omega), Bool.false_and, Bool.false_or]
    obtain ⟨k, hk⟩ : ∃ k, i - x = k + 1 := ⟨i - x - 1, by omega⟩
    rw [hk, Nat.testBit_succ]
    cases hv : v.testBit x <;> simp
def topN (v e : Nat) : Nat := v / 2 ^ e * 2 ^ e
theorem topN_bit (v e j : Nat) : (topN v e).testBit j = (decide (e ≤ j) && v.testBit j) := by
  unfold topN
  rw [Nat.testBit_mul_two_pow, Nat.testBit_div_two_pow]
  by_cases h : e ≤ j
  · rw [decide_eq_true h, Nat.sub_add_cancel h]
  · rw [decide_eq_false h]; rfl
theorem topN_0 (v : Nat) : topN v 0 = v := by unfold topN; simp
theorem topN_le (v e : Nat) : topN v e ≤ v := Nat.div_mul_le_self v _
theorem topN_step (v e : Nat) : (if v.testBit e = true then topN v (e + 1) ||| 2 ^ e else topN v (e + 1)) = topN v e := by
  apply Nat.eq_of_testBit_eq
  intro i
  split
  · rename_i h
    rw [Nat.testBit_or, topN_bit, topN_bit, Nat.testBit_two_pow]
    by_cases e1 : e = i
    · subst e1; simp [h]
    · have : (e + 1 ≤ i) = (e ≤ i) := by apply propext; omega
      simp [e1, this]
  · rename_i h
    rw [topN_bit, topN_bit]
    by_cases e1 : e = i
    · subst e1; simp [h]
    · have : (e + 1 ≤ i) = (e ≤ i) := by apply propext; omega
      simp [this]
theorem tov_at {c w h x y : Nat} (hf : fitN c w h) (hc : c < 2 ^ 64) (hw : w ≤ 8) (hx : x < w) : (tov c w 64).testBit (8 * y + x) = c.testBit (8 * y + (w - 1 - x)) := by
  cases hb : c.testBit (8 * y + (w - 1 - x)) with
  | true =>
    have := bit_lt hc hb
    exact (tov_bit _ 64).mpr ⟨_, this, hb, by omega⟩
  | false =>
    cases ht : (tov c w 64).testBit (8 * y + x) with
    | false => rfl
    | true =>
      obtain ⟨b, h1, h2, h3⟩ := (tov_bit _ 64).mp ht
      have := hf b h2
      have e : b = 8 * y + (w - 1 - x) := by omega
      rw [← e, h2] at hb
      cases hb
theorem qtn_at {c w h x y : Nat} (hf : fitN c w h) (hc : c < 2 ^ 64) (hw : w ≤ 8) (hh : h ≤ 8) (hx : x < 8) (hy : y < h) : (qtn c h 64).testBit (8 * x + (h - 1 - y)) = c.testBit (8 * y + x) := by
  cases hb : c.testBit (8 * y + x) with
  | true =>
    have := bit_lt hc hb
    exact (qtn_bit _ 64).mpr ⟨_, this, hb, by omega⟩
  | false =>
    cases ht : (qtn c h 64).testBit (8 * x + (h - 1 - y)) with
    | false => rfl
    | true =>
      obtain ⟨b, h1, h2, h3⟩ := (qtn_bit _ 64).mp ht
      have := hf b h2
      have e : b = 8 * y + x := by omega
      rw [← e, h2] at hb
      cases hb
theorem fit_row_lt {c w h : Nat} (hf : fitN c w h) (y : Nat) : rowN c y < 2 ^ w := by
  apply Classical.byContradiction
  intro hn
  obtain ⟨x, hx⟩ := ex_bit (x := rowN c y / 2 ^ w) (fun h0 => by
    rcases Nat.div_eq_zero_iff.mp h0 with h | h
    · have := Nat.two_pow_pos w; omega
    · exact hn h)
  rw [Nat.testBit_div_two_pow, rowN_bit, Bool.and_eq_true, decide_eq_true_iff] at hx
  have := (hf _ hx.2).1
  omega
theorem fit_row_zero {c w h y : Nat} (hf : fitN c w h) (hc : c < 2 ^ 64) (hy : h ≤ y) : rowN c y = 0 := (row_zero hc).mpr (fun b hb e => by have := (hf b hb).2; omega)
abbrev x_hb : Type := Nat × Nat × Nat
abbrev e_hb : x_hb → List Value := fun x => [.ref 35, .int (nI x.1), .int (nI x.2.1)]
theorem v_hb (n : Nat) (h : 3 ≤ n) (x : x_hb) : okv (e_hb x) ∧ (lvA (e_hb x)).length ≤ n := ⟨okv_ref (okv_int (okv_int okv_nil)), h⟩
def e_hasBit : ev := (3, 99, false, 0, 0, sf e_hb (fun x _ I _ _ => x.1 < 8 ∧ x.2.1 < 8 ∧ rwA I 35 0 x.2.2) (fun x _ _ _ _ => some (.int (bI (x.2.2.testBit (8 * x.2.1 + x.1))))))
set_option maxRecDepth 20000 in
theorem c_hasBit {l : Launch} : CX l cdX10_hasBit e_hasBit := by
  refine cm_sf RX10 edX10_hasBit [] true kX10_hasBit cwX10_hasBit okX10_hasBit trivial (by decide) rfl (v_hb _ (by decide)) ?_
  intro um zm G Rt ⟨x, y, c⟩ a I J Q cl hb hp hR
  obtain ⟨hx, hy, hr⟩ := hp
  have hx : x < 8 := hx
  have hy : y < 8 := hy
  have hr : rwA I 35 0 c := hr
  have hR : ∀ v, v = some (Value.int (bI (c.testBit (8 * y + x)))) → Rt v a I J Q := hR
  have eb : (I 35 (nI y).toNatClampNeg >>> (nI x &&& 31)) &&& 1 = nI (if c.testBit (8 * y + x) = true then 1 else 0) := by
    have := hr y hy
    rw [Nat.zero_add] at this
    rw [nI_clamp (by omega), this, bit1 rowN_small (by omega), rowN_bit, decide_eq_true hx, Bool.true_and]
  refine cl [] 60 0 _ _ _ _ _ _ ?_
  refine And.intro (show vp_in (nI y) 8 from vp_in_nI hy (by decide)) ?_
  refine And.intro (fun (h : ¬ (I 35 (nI y).toNatClampNeg >>> (nI x &&& 31)) &&& 1 = 1) => And.intro (Or.inl rfl) (hR _ ?_)) (fun (h : (I 35 (nI y).toNatClampNeg >>> (nI x &&& 31)) &&& 1 = 1) => And.intro (Or.inr rfl) (hR _ ?_))
  · rw [eb] at h
    cases hb : c.testBit (8 * y + x) with
    | false => rfl
    | true => rw [hb] at h; exact absurd rfl h
  · rw [eb] at h
    cases hb : c.testBit (8 * y + x) with
    | true => rfl
    | false => rw [hb] at h; exact absurd h (by decide)
abbrev x_to : Type := Nat × Nat × Nat × Nat × Nat
abbrev e_to : x_to → List Value := fun x => [.ref 31, .int (nI x.1), .int (nI x.2.1)]
theorem v_to (n : Nat) (h : 3 ≤ n) (x : x_to) : okv (e_to x) ∧ (lvA (e_to x)).length ≤ n := ⟨okv_ref (okv_int (okv_int okv_nil)), h⟩
/-- a shape of the reference: its number, cells, width, height -/
def rsh (I : hI) (s c w h : Nat) : Prop := s < 12 ∧ c < 2 ^ 64 ∧ rwA I 32 (8 * s) c ∧ I 33 s = nI w ∧ I 34 s = nI h ∧ fitN c w h ∧ (1 ≤ w ∧ w ≤ 8) ∧ (1 ≤ h ∧ h ≤ 8)
def e_turnOf : ev := (3, 10, false, 0, 0, sn e_to (fun x _ I _ _ => rsh I x.1 x.2.2.1 x.2.2.2.1 x.2.2.2.2 ∧ x.2.1 < 8) (fun x _ I J Q v I' J' Q' => v = none ∧ J' = J ∧ Q' = Q ∧ fr I I' [35, 36] ∧ rwA I' 35 0 (trn x.2.2.1 x.2.2.2.1 x.2.2.2.2 x.2.1)))
set_option maxRecDepth 20000 in
theorem c_turnOf {l : Launch} : CX l cdX10_turnOf e_turnOf := by
  refine cm_sn RX10 edX10_turnOf [e_hasBit] false kX10_turnOf cwX10_turnOf okX10_turnOf ⟨⟨_, rfl, c_hasBit⟩, trivial⟩ (by decide) rfl (v_to _ (by decide)) ?_
  intro um zm G Rt ⟨s, t, c, w, h⟩ a I J Q cl hb hp hR
  obtain ⟨⟨hs, hc, hr, hw, hh, hfit, hw8, hh8⟩, ht⟩ := hp
  have hs : s < 12 := hs
  have ht : t < 8 := ht
  have hc : c < 2 ^ 64 := hc
  have hr : rwA I 32 (8 * s) c := hr
  have hw : I 33 s = nI w := hw
  have hh : I 34 s = nI h := hh
  have hfit : fitN c w h := hfit
  have hw8 : 1 ≤ w ∧ w ≤ 8 := hw8
  have hh8 : 1 ≤ h ∧ h ≤ 8 := hh8
  have hR : ∀ v I' J' Q', (v = none ∧ J' = J ∧ Q' = Q ∧ fr I I' [35, 36] ∧ rwA I' 35 0 (trn c w h t)) → Rt v a I' J' Q' := hR
  have et : nI t - nI t / 4 * 4 = nI (t % 4) := pk_rem (d := 4) (by omega) (by decide) (by decide)
  -- quarter turns
  have l5 : ∀ d k cur w' h' (v6 : Option Value) v7 I', d + k = t % 4 → fr I I' [35, 36] → rwA I' 35 0 cur → cur < 2 ^ 64 → fitN cur w' h' → (1 ≤ w' ∧ w' ≤ 8) → (1 ≤ h' ∧ h' ≤ 8) → qit d cur w' h' = trn c w h t → G 105 [some (.ref 31), some (.int (nI s)), some (.int (nI t)), some (.int (nI w')), some (.int (nI h')), some (.int (nI k)), v6, v7] [] a I' J Q := by
    intro d
    induction d with
    | zero =>
      intro k cur w' h' v6 v7 I' hd hf hcr hcl hcf hw' hh' hq
      obtain rfl : k = t % 4 := by omega
      refine cl [18, 36, 105, 116, 140, 150, 204] 90 105 _ _ _ _ _ _ ?_
      refine And.intro (by decide) (And.intro (fun _ => ?_) (fun (h : ¬ nI t - nI t / 4 * 4 ≤ nI (t % 4)) => absurd (by rw [et]; exact nI_le (Nat.le_refl _) (by omega)) h))
      have hq : cur = trn c w h t := hq
      rw [hq] at hcr
      exact hR _ _ _ _ ⟨rfl, rfl, rfl, hf, hcr⟩
    | succ d ih =>
      intro k cur w' h' v6 v7 I' hd hf hcr hcl hcf hw' hh' hq
      have hqf : fitN (qtn cur h' 64) h' w' := qtn_fit hcf hh'.2 hw'.2
      have hql : qtn cur h' 64 < 2 ^ 64 := qtn_lt hcf hw'.2 hh'.2 64
      -- the copy back
      have l9 : ∀ d2 i (v7 : Option Value) I2, d2 + i = 8 → fr I I2 [35, 36] → (∀ j, j < 8 → I2 36 j = nI (rowN (qtn cur h' 64) j)) → (∀ j, j < i → I2 35 j = nI (rowN (qtn cur h' 64) j)) → G 204 [some (.ref 31), some (.int (nI s)), some (.int (nI t)), some (.int (nI w')), some (.int (nI h')), some (.int (nI k)), some (.int (nI i)), v7] [] a I2 J Q := by
        intro d2
        induction d2 with
        | zero =>
          intro i v7 I2 hd2 hf2 h36 h35
          obtain rfl : i = 8 := by omega
          refine cl [18, 36, 105, 116, 140, 150, 204] 90 204 _ _ _ _ _ _ ?_
          refine And.intro (fun _ => ?_) (fun h => absurd (by decide) h)
          have := ih (k + 1) (qtn cur h' 64) h' w' (some (.int (nI w'))) v7 I2 (by omega) hf2 (fun y hy => by rw [Nat.zero_add]; exact h35 y hy) hql hqf hh' hw' hq
          rw [← nI_1 k] at this
          exact this
        | succ d2 ih2 =>
          intro i v7 I2 hd2 hf2 h36 h35
          have eci : (nI i).toNatClampNeg = i := nI_clamp (by omega)
          have hin : vp_in (nI i) 8 := vp_in_nI (by omega) (by decide)
          refine cl [18, 36, 105, 116, 140, 150, 204] 90 204 _ _ _ _ _ _ ?_
          refine And.intro (fun h => absurd h (nI_ge (a := i) (b := 8) (by omega) (by decide))) (fun _ => And.intro hin (And.intro hin ?_))
          have := ih2 (i + 1) v7 (up2 I2 35 (nI i).toNatClampNeg (I2 36 (nI i).toNatClampNeg)) (by omega) (fr_up hf2 (by decide)) (fun j hj => by rw [up2_ne (by decide)]; exact h36 j hj) (fun j hj => ?_)
          · rw [← nI_1 i] at this
            exact this
          · rw [eci]
            by_cases e : j = i
            · subst e; rw [up2_at]; exact h36 j (by omega)
            · rw [up2_nej e]; exact h35 j (by omega)
      -- the cells of row y
      have l8 : ∀ d3 x y I2, d3 + x = w' → y < h' → fr I I2 [35, 36] → rwA I2 35 0 cur → (∀ j, j < 8 → I2 36 j = nI (topN (rowN (qtn cur h' 64) j) (if j < x then h' - 1 - y else h' - y))) → (∀ v7 I3, fr I I3 [35, 36] → rwA I3 35 0 cur → (∀ j, j < 8 → I3 36 j = nI (topN (rowN (qtn cur h' 64) j) (h' - (y + 1)))) → G 140 [some (.ref 31), some (.int (nI s)), some (.int (nI t)), some (.int (nI w')), some (.int (nI h')), some (.int (nI k)), some (.int (nI (y + 1))), v7] [] a I3 J Q) → G 150 [some (.ref 31), some (.int (nI s)), some (.int (nI t)), some (.int (nI w')), some (.int (nI h')), some (.int (nI k)), some (.int (nI y)), some (.int (nI x))] [] a I2 J Q := by
        intro d3
        induction d3 with
        | zero =>
          intro x y I2 hd3 hy hf2 h35 h36 hK
          obtain rfl : x = w' := by omega
          refine cl [18, 36, 105, 116, 140, 150, 204] 90 150 _ _ _ _ _ _ ?_
          refine And.intro (fun _ => ?_) (fun h => absurd (nI_le (Nat.le_refl _) (by omega)) h)
          have := hK (some (.int (nI x))) I2 hf2 h35 (fun j hj => ?_)
          · rw [← nI_1 y] at this
            exact this
          · rw [h36 j hj]
            by_cases e : j < x
            · rw [if_pos e, show h' - 1 - y = h' - (y + 1) by omega]
            · rw [if_neg e, fit_row_zero hqf hql (by omega)]
              unfold topN
              rw [Nat.zero_div, Nat.zero_div, Nat.zero_mul, Nat.zero_mul]
        | succ d3 ih3 =>
          intro x y I2 hd3 hy hf2 h35 h36 hK
          have hx8 : x < 8 := by omega
          have ecx : (nI x).toNatClampNeg = x := nI_clamp (by omega)
          have hin : vp_in (nI x) 8 := vp_in_nI hx8 (by decide)
          have hqb : (rowN (qtn cur h' 64) x).testBit (h' - 1 - y) = cur.testBit (8 * y + x) := by
            rw [rowN_bit, decide_eq_true (by omega), Bool.true_and]
            exact qtn_at hcf hcl hw'.2 hh'.2 hx8 hy
          have hst := topN_step (rowN (qtn cur h' 64) x) (h' - 1 - y)
          rw [hqb, show h' - 1 - y + 1 = h' - y by omega] at hst
          have h36x := h36 x hx8
          rw [if_neg (Nat.lt_irrefl x)] at h36x
          have next : ∀ I3, fr I I3 [35, 36] → rwA I3 35 0 cur → (∀ j, j < 8 → j ≠ x → I3 36 j = I2 36 j) → I3 36 x = nI (topN (rowN (qtn cur h' 64) x) (h' - 1 - y)) → G 150 [some (.ref 31), some (.int (nI s)), some (.int (nI t)), some (.int (nI w')), some (.int (nI h')), some (.int (nI k)), some (.int (nI y)), some (.int (nI x + 1))] [] a I3 J Q := by
            intro I3 g1 g2 g3 g4
            have := ih3 (x + 1) y I3 (by omega) hy g1 g2 (fun j hj => ?_) hK
            · rw [← nI_1 x] at this
              exact this
            · by_cases e : j = x
              · subst e; rw [g4, if_pos (by omega)]
              · rw [g3 j hj e, h36 j hj]
                by_cases e2 : j < x
                · rw [if_pos e2, if_pos (show j < x + 1 by omega)]
                · rw [if_neg e2, if_neg (show ¬ j < x + 1 by omega)]
          refine cl [18, 36, 105, 116, 140, 150, 204] 90 150 _ _ _ _ _ _ ?_
          refine And.intro (fun h => absurd h (nI_ge (a := x) (b := w') (by omega) (by omega))) (fun _ => ?_)
          refine Exists.intro (x, y, cur) (And.intro rfl (And.intro (show x < 8 ∧ y < 8 ∧ rwA I2 35 0 cur from ⟨hx8, by omega, h35⟩) ?_))
          refine bI_cases' (cur.testBit (8 * y + x)) (fun hbit => ?_) (fun hbit => ?_)
          · rw [if_pos hbit] at hst
            refine And.intro hin (And.intro hin ?_)
            have e1 : I2 36 (nI x).toNatClampNeg ||| ((1 : Int32) <<< ((nI h' - 1 - nI y) &&& 31)) = nI (topN (rowN (qtn cur h' 64) x) (h' - 1 - y)) := by
              have hp : 1 * 2 ^ (h' - 1 - y) < 2 ^ 32 := by rw [Nat.one_mul]; exact Nat.pow_lt_pow_right (by decide) (by omega)
              rw [ecx, h36x, show nI h' - 1 - nI y = nI (h' - 1 - y) by rw [show (1 : Int32) = nI 1 from rfl, pk_sub hh'.1, pk_sub (by omega)], show (1 : Int32) = nI 1 from rfl, shlN (by omega) hp, Nat.one_mul, fa_or, hst]
            exact next (up2 I2 36 (nI x).toNatClampNeg (I2 36 (nI x).toNatClampNeg ||| ((1 : Int32) <<< ((nI h' - 1 - nI y) &&& 31)))) (fr_up hf2 (by decide)) (fun y hy => by rw [up2_ne (by decide)]; exact h35 y hy) (fun j hj e => by rw [ecx, up2_nej e]) (by rw [e1, ecx, up2_at])
          · rw [if_neg (by rw [hbit]; decide)] at hst
            exact next I2 hf2 h35 (fun _ _ _ => rfl) (by rw [h36x, hst])
      have l7 : ∀ d3 y (v7 : Option Value) I2, d3 + y = h' → fr I I2 [35, 36] → rwA I2 35 0 cur → (∀ j, j < 8 → I2 36 j = nI (topN (rowN (qtn cur h' 64) j) (h' - y))) → G 140 [some (.ref 31), some (.int (nI s)), some (.int (nI t)), some (.int (nI w')), some (.int (nI h')), some (.int (nI k)), some (.int (nI y)), v7] [] a I2 J Q := by
        intro d3
        induction d3 with
        | zero =>
          intro y v7 I2 hd3 hf2 h35 h36
          obtain rfl : y = h' := by omega
          refine cl [18, 36, 105, 116, 140, 150, 204] 90 140 _ _ _ _ _ _ ?_
          refine And.intro (fun _ => ?_) (fun h => absurd (nI_le (Nat.le_refl _) (by omega)) h)
          exact l9 8 0 v7 I2 rfl hf2 (fun j hj => by rw [h36 j hj, Nat.sub_self, topN_0]) (fun j hj => by omega)
        | succ d3 ih3 =>
          intro y v7 I2 hd3 hf2 h35 h36
          refine cl [18, 36, 105, 116, 140, 150, 204] 90 140 _ _ _ _ _ _ ?_
          refine And.intro (fun h => absurd h (nI_ge (a := y) (b := h') (by omega) (by omega))) (fun _ => ?_)
          exact l8 w' 0 y I2 (by omega) (by omega) hf2 h35 (fun j hj => by rw [if_neg (Nat.not_lt_zero j)]; exact h36 j hj) (fun v7 I3 g1 g2 g3 => ih3 (y + 1) v7 I3 (by omega) g1 g2 g3)
      have l6 : ∀ d2 i (v7 : Option Value) I2, d2 + i = 8 → fr I I2 [35, 36] → rwA I2 35 0 cur → (∀ j, j < i → I2 36 j = 0) → G 116 [some (.ref 31), some (.int (nI s)), some (.int (nI t)), some (.int (nI w')), some (.int (nI h')), some (.int (nI k)), some (.int (nI i)), v7] [] a I2 J Q := by
        intro d2
        induction d2 with
        | zero =>
          intro i v7 I2 hd2 hf2 h35 h36
          obtain rfl : i = 8 := by omega
          refine cl [18, 36, 105, 116, 140, 150, 204] 90 116 _ _ _ _ _ _ ?_
          refine And.intro (fun _ => ?_) (fun h => absurd (by decide) h)
          refine l7 h' 0 v7 I2 (by omega) hf2 h35 (fun j hj => ?_)
          rw [h36 j hj, Nat.sub_zero]
          unfold topN
          rw [Nat.div_eq_of_lt (fit_row_lt hqf j), Nat.zero_mul]
          rfl
        | succ d2 ih2 =>
          intro i v7 I2 hd2 hf2 h35 h36
          have eci : (nI i).toNatClampNeg = i := nI_clamp (by omega)
          refine cl [18, 36, 105, 116, 140, 150, 204] 90 116 _ _ _ _ _ _ ?_
          refine And.intro (fun h => absurd h (nI_ge (a := i) (b := 8) (by omega) (by decide))) (fun _ => And.intro (show vp_in (nI i) 8 from vp_in_nI (by omega) (by decide)) ?_)
          have := ih2 (i + 1) v7 (up2 I2 36 (nI i).toNatClampNeg 0) (by omega) (fr_up hf2 (by decide)) (fun y hy => by rw [up2_ne (by decide)]; exact h35 y hy) (fun j hj => ?_)
          · rw [← nI_1 i] at this
            exact this
          · rw [eci]
            by_cases e : j = i
            · subst e; rw [up2_at]
            · rw [up2_nej e]; exact h36 j (by omega)
      refine cl [18, 36, 105, 116, 140, 150, 204] 90 105 _ _ _ _ _ _ ?_
      refine And.intro (by decide) (And.intro (fun (h : nI t - nI t / 4 * 4 ≤ nI k) => absurd h (by rw [et]; exact nI_ge (by omega) (by omega))) (fun _ => ?_))
      exact l6 8 0 v7 I' rfl hf hcr (fun j hj => by omega)
  -- turned over, or not
  have h1f : fitN (if 3 < t then tov c w 64 else c) w h := by
    split
    · exact tov_fit hfit hw8.2
    · exact hfit
  have h1l : (if 3 < t then tov c w 64 else c) < 2 ^ 64 := by
    split
    · exact tov_lt hfit hw8.2 hh8.2 64
    · exact hc
  have h1q : qit (t % 4) (if 3 < t then tov c w 64 else c) w h = trn c w h t := rfl
  have h1b : ∀ x y, x < w → (if 3 < t then tov c w 64 else c).testBit (8 * y + x) = c.testBit (8 * y + (if 3 < t then w - 1 - x else x)) := by
    intro x y hx
    by_cases h3 : 3 < t
    · rw [if_pos h3, if_pos h3]; exact tov_at hfit hc hw8.2 hx
    · rw [if_neg h3, if_neg h3]
  generalize (if 3 < t then tov c w 64 else c) = c1 at *
  have l2 : ∀ d x y (v7 : Option Value) I', d + x = w → y < 8 → fr I I' [35, 36] → (∀ j, j < y → I' 35 j = nI (rowN c1 j)) → I' 35 y = nI (rowN c1 y % 2 ^ x) → (∀ v6 v7 I2, fr I I2 [35, 36] → (∀ j, j < y + 1 → I2 35 j = nI (rowN c1 j)) → G 18 [some (.ref 31), some (.int (nI s)), some (.int (nI t)), some (.int (nI w)), some (.int (nI h)), some (.int (nI (y + 1))), v6, v7] [] a I2 J Q) → G 36 [some (.ref 31), some (.int (nI s)), some (.int (nI t)), some (.int (nI w)), some (.int (nI h)), some (.int (nI y)), some (.int (nI x)), v7] [] a I' J Q := by
    intro d
    induction d with
    | zero =>
      intro x y v7 I' hd hy hf hj hyx hK
      obtain rfl : x = w := by omega
      refine cl [18, 36, 105, 116, 140, 150, 204] 90 36 _ _ _ _ _ _ ?_
      refine And.intro (fun _ => ?_) (fun h => absurd (nI_le (Nat.le_refl _) (by omega)) h)
      have := hK (some (.int (nI x))) v7 I' hf (fun j hjy => ?_)
      · rw [← nI_1 y] at this
        exact this
      · by_cases e : j = y
        · subst e; rw [hyx, Nat.mod_eq_of_lt (fit_row_lt h1f j)]
        · exact hj j (by omega)
    | succ d ih =>
      intro x y v7 I' hd hy hf hj hyx hK
      have ecy : (nI y).toNatClampNeg = y := nI_clamp (by omega)
      have hin : vp_in (nI y) 8 := vp_in_nI hy (by decide)
      have ei := rwIx (y := y) hs hy
      have hin2 : vp_in (8 * nI s + nI y) 96 := by rw [ei]; exact vp_in_nI (by omega) (by decide)
      have ev : I' 32 (8 * nI s + nI y).toNatClampNeg = nI (rowN c y) := by rw [ei, nI_clamp (by omega), hf 32 (by decide)]; exact hr y hy
      have step : ∀ (F : Int32) f, F = nI f → f < 8 → c1.testBit (8 * y + x) = c.testBit (8 * y + f) → G 36 [some (.ref 31), some (.int (nI s)), some (.int (nI t)), some (.int (nI w)), some (.int (nI h)), some (.int (nI y)), some (.int (nI x + 1)), some (.int F)] [] a (up2 I' 35 (nI y).toNatClampNeg (I' 35 (nI y).toNatClampNeg ||| (((I' 32 (8 * nI s + nI y).toNatClampNeg >>> (F &&& 31)) &&& 1) <<< (nI x &&& 31)))) J Q := by
        intro F f hF hf8 hbf
        have hp : (if (rowN c1 y).testBit x = true then 1 else 0) * 2 ^ x < 2 ^ 32 := by
          have : (2 : Nat) ^ x < 2 ^ 8 := Nat.pow_lt_pow_right (by decide) (by omega)
          split <;> omega
        have e1 : I' 35 (nI y).toNatClampNeg ||| (((I' 32 (8 * nI s + nI y).toNatClampNeg >>> (F &&& 31)) &&& 1) <<< (nI x &&& 31)) = nI (rowN c1 y % 2 ^ (x + 1)) := by
          have eb : (rowN c y).testBit f = (rowN c1 y).testBit x := by
            rw [rowN_bit, rowN_bit, decide_eq_true hf8, decide_eq_true (show x < 8 by omega), Bool.true_and, Bool.true_and, hbf]
          rw [ecy, hyx, ev, hF, bit1 rowN_small (by omega), eb, shlN (by omega) hp, fa_or, mod_step]
        have := ih (x + 1) y (some (.int F)) (up2 I' 35 (nI y).toNatClampNeg (I' 35 (nI y).toNatClampNeg ||| (((I' 32 (8 * nI s + nI y).toNatClampNeg >>> (F &&& 31)) &&& 1) <<< (nI x &&& 31)))) (by omega) hy (fr_up hf (by decide)) (fun j hjy => by rw [ecy, up2_nej (by omega)]; exact hj j hjy) (by rw [e1, ecy, up2_at]) hK
        rw [← nI_1 x] at this
        exact this
      refine cl [18, 36, 105, 116, 140, 150, 204] 90 36 _ _ _ _ _ _ ?_
      refine And.intro (fun h => absurd h (nI_ge (a := x) (b := w) (by omega) (by omega))) (fun _ => And.intro (fun (h3 : nI t ≤ 3) => ?_) (fun (h3 : ¬ nI t ≤ 3) => ?_))
      · rw [show (3 : Int32) = nI 3 from rfl, nI_leI (by omega) (by decide)] at h3
        refine And.intro hin (And.intro hin2 (And.intro hin ?_))
        exact step (nI x) x rfl (by omega) (by rw [h1b x y (by omega), if_neg (by omega)])
      · rw [show (3 : Int32) = nI 3 from rfl, nI_leI (by omega) (by decide)] at h3
        refine And.intro hin (And.intro hin2 (And.intro hin ?_))
        exact step (nI w - 1 - nI x) (w - 1 - x) (by rw [show (1 : Int32) = nI 1 from rfl, pk_sub hw8.1, pk_sub (by omega)]) (by omega) (by rw [h1b x y (by omega), if_pos (by omega)])
  have l1 : ∀ d y (v6 v7 : Option Value) I', d + y = 8 → fr I I' [35, 36] → (∀ j, j < y → I' 35 j = nI (rowN c1 j)) → G 18 [some (.ref 31), some (.int (nI s)), some (.int (nI t)), some (.int (nI w)), some (.int (nI h)), some (.int (nI y)), v6, v7] [] a I' J Q := by
    intro d
    induction d with
    | zero =>
      intro y v6 v7 I' hd hf hj
      obtain rfl : y = 8 := by omega
      refine cl [18, 36, 105, 116, 140, 150, 204] 90 18 _ _ _ _ _ _ ?_
      refine And.intro (fun _ => ?_) (fun h => absurd (by decide) h)
      exact l5 (t % 4) 0 c1 w h v6 v7 I' (by omega) hf (fun y hy => by rw [Nat.zero_add]; exact hj y hy) h1l h1f hw8 hh8 h1q
    | succ d ih =>
      intro y v6 v7 I' hd hf hj
      have ecy : (nI y).toNatClampNeg = y := nI_clamp (by omega)
      refine cl [18, 36, 105, 116, 140, 150, 204] 90 18 _ _ _ _ _ _ ?_
      refine And.intro (fun h => absurd h (nI_ge (a := y) (b := 8) (by omega) (by decide))) (fun _ => And.intro (show vp_in (nI y) 8 from vp_in_nI (by omega) (by decide)) ?_)
      exact l2 w 0 y v7 (up2 I' 35 (nI y).toNatClampNeg 0) (by omega) (by omega) (fr_up hf (by decide)) (fun j hjy => by rw [ecy, up2_nej (by omega)]; exact hj j hjy) (by rw [ecy, up2_at, Nat.pow_zero, Nat.mod_one]; rfl) (fun v6 v7 I2 g1 g2 => ih (y + 1) v6 v7 I2 (by omega) g1 g2)
  refine cl [18, 36, 105, 116, 140, 150, 204] 90 0 _ _ _ _ _ _ ?_
  refine And.intro (show vp_in (nI s) 12 from vp_in_nI hs (by decide)) (And.intro (show vp_in (nI s) 12 from vp_in_nI hs (by decide)) ?_)
  have := l1 8 0 none none I rfl (fr_refl _ _) (fun j hj => by omega)
  have ecs : (nI s).toNatClampNeg = s := nI_clamp (by omega)
  have e3 : I 33 (nI s).toNatClampNeg = nI w := by rw [ecs]; exact hw
  have e4 : I 34 (nI s).toNatClampNeg = nI h := by rw [ecs]; exact hh
  rw [← e3, ← e4] at this
  exact this
