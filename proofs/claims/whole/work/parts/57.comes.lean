/-! the corner, and the reference's comes -/
theorem rows0_spec {c : Nat} (hc : c < 2 ^ 64) (h0 : c ≠ 0) : ∀ f k, k + f = 7 → (∀ b, c.testBit b = true → k ≤ b / 8) → ∃ y, y < 8 ∧ rows0 f (c / 2 ^ (8 * k)) = c / 2 ^ (8 * y) ∧ (∀ b, c.testBit b = true → y ≤ b / 8) ∧ ∃ b, c.testBit b = true ∧ b / 8 = y
  | 0, k, hk, h => by
    obtain ⟨b, hb⟩ := ex_bit h0
    have := bit_lt hc hb
    have := h b hb
    exact ⟨k, by omega, rfl, h, b, hb, by omega⟩
  | f + 1, k, hk, h => by
    have e : c / 2 ^ (8 * k) &&& 255 = rowN c k := by
      rw [show (255 : Nat) = 2 ^ 8 - 1 from rfl, Nat.and_two_pow_sub_one_eq_mod]
      rfl
    unfold rows0
    rw [e]
    split
    · rename_i hz
      have hz := (row_zero hc).mp hz
      rw [Nat.div_div_eq_div_mul, ← Nat.pow_add, show 8 * k + 8 = 8 * (k + 1) by omega]
      exact rows0_spec hc h0 f (k + 1) (by omega) (fun b hb => by have := h b hb; have := hz b hb; omega)
    · rename_i hz
      refine ⟨k, by omega, rfl, h, ?_⟩
      apply Classical.byContradiction
      intro hn
      exact hz ((row_zero hc).mpr (fun b hb e => hn ⟨b, hb, e⟩))
theorem cols0_spec {c : Nat} (hc : c < 2 ^ 64) (h0 : c ≠ 0) : ∀ f k, k + f = 7 → (∀ b, c.testBit b = true → k ≤ b % 8) → ∃ x, x < 8 ∧ cols0 f (c / 2 ^ k) = c / 2 ^ x ∧ (∀ b, c.testBit b = true → x ≤ b % 8) ∧ ∃ b, c.testBit b = true ∧ b % 8 = x
  | 0, k, hk, h => by
    obtain ⟨b, hb⟩ := ex_bit h0
    have := h b hb
    exact ⟨k, by omega, rfl, h, b, hb, by omega⟩
  | f + 1, k, hk, h => by
    have hlt : c / 2 ^ k < 2 ^ 64 := Nat.lt_of_le_of_lt (Nat.div_le_self _ _) hc
    have e : c / 2 ^ k &&& COL = 0 ↔ ∀ b, c.testBit b = true → b % 8 ≠ k := by
      rw [show COL = COL * 2 ^ 0 by rw [Nat.pow_zero, Nat.mul_one], col_empty hlt (by decide)]
      constructor
      · intro g b hb e
        have := g (b - k) (by rw [Nat.testBit_div_two_pow, Nat.sub_add_cancel (by omega)]; exact hb)
        omega
      · intro g b hb e
        rw [Nat.testBit_div_two_pow] at hb
        have := g _ hb
        omega
    unfold cols0
    split
    · rename_i hz
      have hz := e.mp hz
      rw [Nat.div_div_eq_div_mul, ← Nat.pow_add]
      exact cols0_spec hc h0 f (k + 1) (by omega) (fun b hb => by have := h b hb; have := hz b hb; omega)
    · rename_i hz
      refine ⟨k, by omega, rfl, h, ?_⟩
      apply Classical.byContradiction
      intro hn
      exact hz (e.mpr (fun b hb e => hn ⟨b, hb, e⟩))
theorem corner_spec {c : Nat} (hc : c < 2 ^ 64) (h0 : c ≠ 0) : ∃ x y, x < 8 ∧ y < 8 ∧ (∀ b, c.testBit b = true → x ≤ b % 8 ∧ y ≤ b / 8) ∧ (∃ b, c.testBit b = true ∧ b % 8 = x) ∧ (∃ b, c.testBit b = true ∧ b / 8 = y) ∧ ∀ b, (cornerN c).testBit b = c.testBit (b + x + 8 * y) := by
  obtain ⟨y, hy, e1, h1, b1, hb1, eb1⟩ := rows0_spec hc h0 7 0 rfl (fun _ _ => Nat.zero_le _)
  rw [Nat.mul_zero, Nat.pow_zero, Nat.div_one] at e1
  have hlt : c / 2 ^ (8 * y) < 2 ^ 64 := Nat.lt_of_le_of_lt (Nat.div_le_self _ _) hc
  have hbt : ∀ b, (c / 2 ^ (8 * y)).testBit b = c.testBit (b + 8 * y) := fun b => Nat.testBit_div_two_pow _ _
  have hne : c / 2 ^ (8 * y) ≠ 0 := fun h => by
    have := hbt (b1 - 8 * y)
    rw [h, Nat.zero_testBit, Nat.sub_add_cancel (by omega), hb1] at this
    cases this
  obtain ⟨x, hx, e2, h2, b2, hb2, eb2⟩ := cols0_spec hlt hne 7 0 rfl (fun _ _ => Nat.zero_le _)
  rw [Nat.pow_zero, Nat.div_one] at e2
  refine ⟨x, y, hx, hy, fun b hb => ⟨?_, h1 b hb⟩, ?_, ⟨b1, hb1, eb1⟩, fun b => ?_⟩
  · have := h1 b hb
    have := h2 (b - 8 * y) (by rw [hbt, Nat.sub_add_cancel (by omega)]; exact hb)
    omega
  · rw [hbt] at hb2
    exact ⟨b2 + 8 * y, hb2, by omega⟩
  · unfold cornerN
    rw [e1, e2, Nat.testBit_div_two_pow, hbt]
theorem corner_cor {c : Nat} (hc : c < 2 ^ 64) (h0 : c ≠ 0) : cor (cornerN c) := by
  obtain ⟨x, y, hx, hy, h1, ⟨b1, hb1, e1⟩, ⟨b2, hb2, e2⟩, hbit⟩ := corner_spec hc h0
  have g1 := h1 b1 hb1
  have g2 := h1 b2 hb2
  refine ⟨⟨b1 - x - 8 * y, ?_, by omega⟩, ⟨b2 - x - 8 * y, ?_, by omega⟩⟩
  · rw [hbit, show b1 - x - 8 * y + x + 8 * y = b1 by omega]; exact hb1
  · rw [hbit, show b2 - x - 8 * y + x + 8 * y = b2 by omega]; exact hb2
theorem corner_id {c : Nat} (hc : c < 2 ^ 64) (h : cor c) : cornerN c = c := by
  obtain ⟨x, y, hx, hy, h1, _, _, hbit⟩ := corner_spec hc (cor_ne h)
  obtain ⟨⟨b1, hb1, e1⟩, ⟨b2, hb2, e2⟩⟩ := h
  have g1 := h1 b1 hb1
  have g2 := h1 b2 hb2
  obtain rfl : x = 0 := by omega
  obtain rfl : y = 0 := by omega
  exact Nat.eq_of_testBit_eq (fun b => by rw [hbit]; rfl)
theorem corner_row {c x y : Nat} (hc : c < 2 ^ 64) (hx : x < 8) (h1 : ∀ b, c.testBit b = true → x ≤ b % 8 ∧ y ≤ b / 8) (hbit : ∀ b, (cornerN c).testBit b = c.testBit (b + x + 8 * y)) (k : Nat) : rowN (cornerN c) k = if k + y < 8 then rowN c (k + y) / 2 ^ x else 0 := by
  apply Nat.eq_of_testBit_eq
  intro j
  rw [rowN_bit, hbit]
  have key : ∀ b, 64 ≤ b → c.testBit b = false := fun b hb => by
    cases h : c.testBit b with
    | false => rfl
    | true => have := bit_lt hc h; omega
  split
  · rename_i hk
    rw [Nat.testBit_div_two_pow, rowN_bit]
    by_cases hj : j < 8
    · by_cases hjx : j + x < 8
      · rw [decide_eq_true hj, decide_eq_true hjx, show 8 * k + j + x + 8 * y = 8 * (k + y) + (j + x) by omega]
      · rw [decide_eq_true hj, decide_eq_false hjx, Bool.true_and, Bool.false_and]
        cases h : c.testBit (8 * k + j + x + 8 * y) with
        | false => rfl
        | true => have := (h1 _ h).1; omega
    · rw [decide_eq_false hj, decide_eq_false (by omega), Bool.false_and, Bool.false_and]
  · rename_i hk
    rw [Nat.zero_testBit]
    by_cases hj : j < 8
    · rw [key _ (by omega), Bool.and_false]
    · rw [decide_eq_false hj, Bool.false_and]
def fr (I I' : hI) (l : List Nat) : Prop := ∀ k, k ∉ l → I' k = I k
theorem fr_refl (I : hI) (l : List Nat) : fr I I l := fun _ _ => rfl
theorem fr_up {I I' : hI} {l : List Nat} {k j : Nat} {v : Int32} (h : fr I I' l) (hk : k ∈ l) : fr I (up2 I' k j v) l := fun k' hk' => by
  have hne : k' ≠ k := fun e => hk' (by rw [e]; exact hk)
  rw [up2_ne hne]
  exact h k' hk'
theorem fr_tr {I I' I2 : hI} {l l2 : List Nat} (h : fr I I' l) (h2 : fr I' I2 l2) (hs : ∀ k, k ∈ l2 → k ∈ l) : fr I I2 l := fun k hk => (h2 k (fun h => hk (hs k h))).trans (h k hk)
abbrev e_cm : Nat × Nat → List Value := fun _ => [.ref 31]
theorem v_cm (n : Nat) (h : 1 ≤ n) (x : Nat × Nat) : okv (e_cm x) ∧ (lvA (e_cm x)).length ≤ n := ⟨okv_ref okv_nil, h⟩
/-- one shape more in the reference -/
def rAdd (I I' : hI) (c n : Nat) : Prop := fr I I' [31, 32, 33, 34, 36] ∧ (∀ j, j ≠ 2 → I' 31 j = I 31 j) ∧ I' 31 2 = nI (n + 1) ∧ (∀ i, (i < 8 * n ∨ 8 * n + 8 ≤ i) → I' 32 i = I 32 i) ∧ rwA I' 32 (8 * n) (cornerN c) ∧ (∀ i, i ≠ n → I' 33 i = I 33 i) ∧ I' 33 n = nI (widthN (cornerN c)) ∧ (∀ i, i ≠ n → I' 34 i = I 34 i) ∧ I' 34 n = nI (heightN (cornerN c))
def e_comes : ev := (1, 10, false, 0, 0, sn e_cm (fun x _ I _ _ => x.1 < 2 ^ 64 ∧ x.1 ≠ 0 ∧ rwA I 35 0 x.1 ∧ I 31 2 = nI x.2 ∧ x.2 < 12) (fun x _ I J Q v I' J' Q' => v = some (.int (nI x.2)) ∧ J' = J ∧ Q' = Q ∧ rAdd I I' x.1 x.2))
set_option maxRecDepth 20000 in
theorem c_comes {l : Launch} : CX l cdX10_comes e_comes := by
  refine cm_sn RX10 edX10_comes [e_rwidth, e_rheight] false kX10_comes cwX10_comes okX10_comes ⟨⟨_, rfl, c_rwidth⟩, ⟨_, rfl, c_rheight⟩, trivial⟩ (by decide) rfl (v_cm _ (by decide)) ?_
  intro um zm G Rt ⟨c, n⟩ a I J Q cl hb hp hR
  obtain ⟨hc, h0, hr, hn, hn12⟩ := hp
  have hc : c < 2 ^ 64 := hc
  have h0 : c ≠ 0 := h0
  have hr : rwA I 35 0 c := hr
  have hn : I 31 2 = nI n := hn
  have hn12 : n < 12 := hn12
  have hr : ∀ y, y < 8 → I 35 y = nI (rowN c y) := fun y hy => by have := hr y hy; rwa [Nat.zero_add] at this
  obtain ⟨x, y, hx, hy, hb1, ⟨bx, hbx, ebx⟩, ⟨by', hby, eby⟩, hbit⟩ := corner_spec hc h0
  have hrow := corner_row hc hx hb1 hbit
  have hcl : cornerN c < 2 ^ 64 := corner_lt hc
  have hcn : cornerN c ≠ 0 := cor_ne (corner_cor hc h0)
  have fin : ∀ v1 v2 v3 v4 I', fr I I' [32, 36] → (∀ k, k < 8 → I' 36 k = nI (rowN (cornerN c) k)) → (∀ i, (i < 8 * n ∨ 8 * n + 8 ≤ i) → I' 32 i = I 32 i) → rwA I' 32 (8 * n) (cornerN c) → G 143 [some (.ref 31), v1, v2, v3, v4] [] a I' J Q := by
    intro v1 v2 v3 v4 I' hf h36 h32 hrw
    have e2 : I' 31 2 = nI n := by rw [hf 31 (by decide)]; exact hn
    have ecl : (I' 31 2).toNatClampNeg = n := by rw [e2]; exact nI_clamp (by omega)
    have hin : vp_in (I' 31 2) 12 := by rw [e2]; exact vp_in_nI hn12 (by decide)
    refine cl [4, 27, 43, 61, 108, 143] 90 143 _ _ _ _ _ _ ?_
    refine Exists.intro (cornerN c) (And.intro rfl (And.intro ⟨hcl, hcn, fun k hk => by rw [Nat.zero_add]; exact h36 k hk⟩ ?_))
    refine And.intro hin ?_
    refine Exists.intro (cornerN c) (And.intro rfl (And.intro ⟨hcl, hcn, fun k hk => by rw [Nat.zero_add, up2_ne (by decide)]; exact h36 k hk⟩ ?_))
    refine And.intro hin ?_
    have := hR (some (.int (up2 (up2 (up2 I' 33 (I' 31 2).toNatClampNeg (nI (widthN (cornerN c)))) 34 (I' 31 2).toNatClampNeg (nI (heightN (cornerN c)))) 31 2 (I' 31 2 + 1) 31 2 - 1))) (up2 (up2 (up2 I' 33 (I' 31 2).toNatClampNeg (nI (widthN (cornerN c)))) 34 (I' 31 2).toNatClampNeg (nI (heightN (cornerN c)))) 31 2 (I' 31 2 + 1)) J Q ⟨?_, rfl, rfl, ?_⟩
    · exact this
    · rw [up2_at, e2, nI_1, nI_pred]
    · refine ⟨fr_up (fr_up (fr_up (fun k hk => hf k (fun h => hk (by simp at h; rcases h with rfl | rfl <;> decide))) (by decide)) (by decide)) (by decide), fun j hj => ?_, ?_, fun i hi => ?_, fun k hk => ?_, fun i hi => ?_, ?_, fun i hi => ?_, ?_⟩
      · rw [up2_nej hj, up2_ne (by decide), up2_ne (by decide), hf 31 (by decide)]
      · rw [up2_at, e2, nI_1]
      · rw [up2_ne (by decide), up2_ne (by decide), up2_ne (by decide)]; exact h32 i hi
      · rw [up2_ne (by decide), up2_ne (by decide), up2_ne (by decide)]; exact hrw k hk
      · rw [up2_ne (by decide), up2_ne (by decide), ecl, up2_nej hi, hf 33 (by decide)]
      · rw [up2_ne (by decide), up2_ne (by decide), ecl, up2_at]
      · rw [up2_ne (by decide), ecl, up2_nej hi, up2_ne (by decide), hf 34 (by decide)]
      · rw [up2_ne (by decide), ecl, up2_at]
  have l5 : ∀ d k v1 v2 (v3 : Int32) I', d + k = 8 → fr I I' [32, 36] → (∀ k, k < 8 → I' 36 k = nI (rowN (cornerN c) k)) → (∀ i, (i < 8 * n ∨ 8 * n + 8 ≤ i) → I' 32 i = I 32 i) → (∀ i, i < k → I' 32 (8 * n + i) = nI (rowN (cornerN c) i)) → G 108 [some (.ref 31), v1, v2, some (.int v3), some (.int (nI k))] [] a I' J Q := by
    intro d
    induction d with
    | zero =>
      intro k v1 v2 v3 I' hd hf h36 h32 hrw
      obtain rfl : k = 8 := by omega
      refine cl [4, 27, 43, 61, 108, 143] 90 108 _ _ _ _ _ _ ?_
      exact And.intro (fun _ => fin _ _ _ _ I' hf h36 h32 hrw) (fun h => absurd (by decide) h)
    | succ d ih =>
      intro k v1 v2 v3 I' hd hf h36 h32 hrw
      have e2 : I' 31 2 = nI n := by rw [hf 31 (by decide)]; exact hn
      have ei : 8 * I' 31 2 + nI k = nI (8 * n + k) := by rw [e2]; exact rwIx hn12 (by omega)
      have eci : (8 * I' 31 2 + nI k).toNatClampNeg = 8 * n + k := by rw [ei]; exact nI_clamp (by omega)
      have eck : (nI k).toNatClampNeg = k := nI_clamp (by omega)
      refine cl [4, 27, 43, 61, 108, 143] 90 108 _ _ _ _ _ _ ?_
      refine And.intro (fun h => absurd h (nI_ge (a := k) (b := 8) (by omega) (by decide))) (fun _ => And.intro (show vp_in (nI k) 8 from vp_in_nI (by omega) (by decide)) (And.intro (show vp_in (8 * I' 31 2 + nI k) 96 from by rw [ei]; exact vp_in_nI (by omega) (by decide)) ?_))
      have := ih (k + 1) v1 v2 v3 (up2 I' 32 (8 * I' 31 2 + nI k).toNatClampNeg (I' 36 (nI k).toNatClampNeg)) (by omega) (fr_up hf (by decide)) (fun k hk => by rw [up2_ne (by decide)]; exact h36 k hk) (fun i hi => by rw [eci, up2_nej (by omega)]; exact h32 i hi) (fun i hi => ?_)
      · rw [← nI_1 k] at this
        exact this
      · rw [eci, eck]
        by_cases e : i = k
        · subst e; rw [up2_at]; exact h36 i (by omega)
        · rw [up2_nej (by omega)]; exact hrw i (by omega)
  have l4 : ∀ d k v1 I', d + k = 8 → fr I I' [36] → (∀ i, i < k → I' 36 i = nI (rowN (cornerN c) i)) → G 61 [some (.ref 31), v1, some (.int (nI x)), some (.int (nI y)), some (.int (nI k))] [] a I' J Q := by
    intro d
    induction d with
    | zero =>
      intro k v1 I' hd hf h36
      obtain rfl : k = 8 := by omega
      refine cl [4, 27, 43, 61, 108, 143] 90 61 _ _ _ _ _ _ ?_
      refine And.intro (fun _ => ?_) (fun h => absurd (by decide) h)
      exact l5 8 0 _ _ _ I' rfl (fun k hk => hf k (fun h => hk (by simp at h; rw [h]; decide))) h36 (fun i _ => by rw [hf 32 (by decide)]) (fun i hi => by omega)
    | succ d ih =>
      intro k v1 I' hd hf h36
      have e1 : nI k + nI y = nI (k + y) := nI_add k y
      have eck : (nI k).toNatClampNeg = k := nI_clamp (by omega)
      have step : ∀ v, v = nI (rowN (cornerN c) k) → G 61 [some (.ref 31), v1, some (.int (nI x)), some (.int (nI y)), some (.int (nI k + 1))] [] a (up2 I' 36 (nI k).toNatClampNeg v) J Q := by
        intro v hv
        have := ih (k + 1) v1 (up2 I' 36 (nI k).toNatClampNeg v) (by omega) (fr_up hf (by decide)) (fun i hi => ?_)
        · rw [← nI_1 k] at this
          exact this
        · rw [eck]
          by_cases e : i = k
          · subst e; rw [up2_at]; exact hv
          · rw [up2_nej e]; exact h36 i (by omega)
      refine cl [4, 27, 43, 61, 108, 143] 90 61 _ _ _ _ _ _ ?_
      refine And.intro (fun h => absurd h (nI_ge (a := k) (b := 8) (by omega) (by decide))) (fun _ => And.intro (fun (h : 8 ≤ nI k + nI y) => ?_) (fun (h : ¬ 8 ≤ nI k + nI y) => ?_))
      · rw [e1, show (8 : Int32) = nI 8 from rfl, nI_leI (by decide) (by omega)] at h
        refine And.intro (show vp_in (nI k) 8 from vp_in_nI (by omega) (by decide)) ?_
        exact step 0 (by rw [hrow, if_neg (by omega)]; rfl)
      · rw [e1, show (8 : Int32) = nI 8 from rfl, nI_leI (by decide) (by omega)] at h
        have ecy : (nI k + nI y).toNatClampNeg = k + y := by rw [e1]; exact nI_clamp (by omega)
        refine And.intro (show vp_in (nI k + nI y) 8 from by rw [e1]; exact vp_in_nI (by omega) (by decide)) (And.intro (show vp_in (nI k) 8 from vp_in_nI (by omega) (by decide)) ?_)
        exact step (I' 35 (nI k + nI y).toNatClampNeg >>> (nI x &&& 31)) (by
          rw [ecy, hf 35 (by decide), hr _ (by omega), ishrN rowN_small (by omega), hrow, if_pos (by omega)])
  have l3 : ∀ d k v1 v4, d + k = y → G 43 [some (.ref 31), v1, some (.int (nI x)), some (.int (nI k)), v4] [] a I J Q := by
    intro d
    induction d with
    | zero =>
      intro k v1 v4 hd
      obtain rfl : k = y := by omega
      refine cl [4, 27, 43, 61, 108, 143] 90 43 _ _ _ _ _ _ ?_
      refine And.intro (show vp_in (nI k) 8 from vp_in_nI (by omega) (by decide)) (And.intro (fun _ => l4 8 0 _ I rfl (fr_refl _ _) (fun i hi => by omega)) (fun (h : I 35 (nI k).toNatClampNeg = 0) => ?_))
      rw [nI_clamp (by omega), hr _ (by omega), show (0 : Int32) = nI 0 from rfl, nI_eq rowN_small (by decide), row_zero hc] at h
      exact absurd eby (h _ hby)
    | succ d ih =>
      intro k v1 v4 hd
      refine cl [4, 27, 43, 61, 108, 143] 90 43 _ _ _ _ _ _ ?_
      refine And.intro (show vp_in (nI k) 8 from vp_in_nI (by omega) (by decide)) (And.intro (fun (h : ¬ I 35 (nI k).toNatClampNeg = 0) => ?_) (fun _ => ?_))
      · refine absurd ?_ h
        rw [nI_clamp (by omega), hr _ (by omega), show (0 : Int32) = nI 0 from rfl, nI_eq rowN_small (by decide), row_zero hc]
        intro b hb e
        have := (hb1 b hb).2
        omega
      · have := ih (k + 1) v1 v4 (by omega)
        rw [← nI_1 k] at this
        exact this
  have l2 : ∀ d k v3 v4, d + k = x → G 27 [some (.ref 31), some (.int (nI (orR c 8))), some (.int (nI k)), v3, v4] [] a I J Q := by
    intro d
    have hor := orR_lt c 8
    induction d with
    | zero =>
      intro k v3 v4 hd
      obtain rfl : k = x := by omega
      refine cl [4, 27, 43, 61, 108, 143] 90 27 _ _ _ _ _ _ ?_
      refine And.intro (fun _ => l3 y 0 _ _ (by omega)) (fun (h : (nI (orR c 8) >>> (nI k &&& 31)) &&& 1 = 0) => ?_)
      rw [bit1 (by omega) (by omega), if_pos ((orR8 hc k).mpr ⟨bx, hbx, ebx⟩)] at h
      exact absurd h (by decide)
    | succ d ih =>
      intro k v3 v4 hd
      refine cl [4, 27, 43, 61, 108, 143] 90 27 _ _ _ _ _ _ ?_
      refine And.intro (fun (h : ¬ (nI (orR c 8) >>> (nI k &&& 31)) &&& 1 = 0) => ?_) (fun _ => ?_)
      · refine absurd ?_ h
        rw [bit1 (by omega) (by omega), if_neg (fun h => ?_)]
        · rfl
        · obtain ⟨b, hb, e⟩ := (orR8 hc k).mp h
          have := (hb1 b hb).1
          omega
      · have := ih (k + 1) v3 v4 (by omega)
        rw [← nI_1 k] at this
        exact this
  have l1 : ∀ d k v3 v4, d + k = 8 → G 4 [some (.ref 31), some (.int (nI (orR c k))), some (.int (nI k)), v3, v4] [] a I J Q := by
    intro d
    induction d with
    | zero =>
      intro k v3 v4 hd
      obtain rfl : k = 8 := by omega
      refine cl [4, 27, 43, 61, 108, 143] 90 4 _ _ _ _ _ _ ?_
      exact And.intro (fun _ => l2 x 0 _ _ (by omega)) (fun h => absurd (by decide) h)
    | succ d ih =>
      intro k v3 v4 hd
      refine cl [4, 27, 43, 61, 108, 143] 90 4 _ _ _ _ _ _ ?_
      refine And.intro (fun h => absurd h (nI_ge (a := k) (b := 8) (by omega) (by decide))) (fun _ => And.intro (show vp_in (nI k) 8 from vp_in_nI (by omega) (by decide)) ?_)
      have := ih (k + 1) v3 v4 (by omega)
      have e : nI (orR c k) ||| I 35 (nI k).toNatClampNeg = nI (orR c (k + 1)) := by
        rw [nI_clamp (by omega), hr k (by omega), fa_or]
        rfl
      rw [← nI_1 k, ← e] at this
      exact this
  refine cl [4, 27, 43, 61, 108, 143] 90 0 _ _ _ _ _ _ ?_
  exact l1 8 0 none none rfl
