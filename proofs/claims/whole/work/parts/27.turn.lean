/-! SHAPES of the class: turns -/
theorem bitN {n b : Nat} (hn : n < 2 ^ 64) (hb : b < 64) : lg_cmp (((lN n).toUInt64 >>> ((nI b).toInt64.toUInt64 &&& Int64.toUInt64 63)).toInt64 &&& 1) 0 = 0 ↔ n.testBit b = false := by
  rw [wb_bit hn hb, lgN (by omega), Nat.testBit_eq_decide_div_mod_eq]
  have := Nat.mod_two_eq_zero_or_one (n / 2 ^ b)
  simp only [decide_eq_false_iff_not]
  omega
theorem rem8 (b : Nat) (hb : b < 64) : nI b - nI b / 8 * 8 = nI (b % 8) := pk_rem (d := 8) (by omega) (by decide) (by decide)
theorem div8 (b : Nat) (hb : b < 64) : nI b / 8 = nI (b / 8) := pk_div (d := 8) (by omega) (by decide) (by decide)
/-- turned over, out of the first bits -/
def tov (c w : Nat) : Nat → Nat
  | 0 => 0
  | b + 1 => if c.testBit b = true then tov c w b ||| 2 ^ (8 * (b / 8) + (w - 1 - b % 8)) else tov c w b
def qtn (c h : Nat) : Nat → Nat
  | 0 => 0
  | b + 1 => if c.testBit b = true then qtn c h b ||| 2 ^ (8 * (b % 8) + (h - 1 - b / 8)) else qtn c h b
/-- the cells lie in w and h -/
def fitN (c w h : Nat) : Prop := ∀ b, c.testBit b = true → b % 8 < w ∧ b / 8 < h
theorem tov_lt {c w h : Nat} (hf : fitN c w h) (hw : w ≤ 8) (hh : h ≤ 8) : ∀ b, tov c w b < 2 ^ 64
  | 0 => (show 0 < 2 ^ 64 by decide)
  | b + 1 => by
    unfold tov
    split
    · rename_i hb
      have := hf b hb
      exact Nat.or_lt_two_pow (tov_lt hf hw hh b) (Nat.pow_lt_pow_right (by decide) (by omega))
    · exact tov_lt hf hw hh b
theorem qtn_lt {c w h : Nat} (hf : fitN c w h) (hw : w ≤ 8) (hh : h ≤ 8) : ∀ b, qtn c h b < 2 ^ 64
  | 0 => (show 0 < 2 ^ 64 by decide)
  | b + 1 => by
    unfold qtn
    split
    · rename_i hb
      have := hf b hb
      exact Nat.or_lt_two_pow (qtn_lt hf hw hh b) (Nat.pow_lt_pow_right (by decide) (by omega))
    · exact qtn_lt hf hw hh b
/-- a shape with its sides -/
def shw (a : hA) (I : hI) (J : hJ) (k c w h : Nat) : Prop := shp a I J k c ∧ I k 1 = nI w ∧ I k 2 = nI h ∧ fitN c w h ∧ 1 ≤ w ∧ w ≤ 8 ∧ 1 ≤ h ∧ h ≤ 8
abbrev e_kw : Nat × Nat × Nat × Nat → List Value := fun x => [.ref x.1]
theorem v_kw (n : Nat) (h : 1 ≤ n) (x : Nat × Nat × Nat × Nat) : okv (e_kw x) ∧ (lvA (e_kw x)).length ≤ n := ⟨okv_ref okv_nil, h⟩
abbrev p_kw : Nat × Nat × Nat × Nat → hA → hI → hJ → hQ → Prop := fun x a I J _ => shw a I J x.1 x.2.1 x.2.2.1 x.2.2.2
def e_over : ev := (1, 7, false, 0, 0, sf e_kw p_kw (fun x _ _ _ _ => some (.long (lN (tov x.2.1 x.2.2.1 64)))))
set_option maxRecDepth 20000 in
theorem c_over {l : Launch} : CX l cdX7_turnedOver e_over := by
  refine cm_sf RX7 edX7_turnedOver [e_cellAt] false kX7_turnedOver cwX7_turnedOver okX7_turnedOver ⟨⟨_, rfl, c_cellAt⟩, trivial⟩ (by decide) rfl (v_kw _ (by decide)) ?_
  intro um zm G Rt ⟨k, c, w, h⟩ a I J Q cl hb hp hR
  obtain ⟨⟨ho, hj, hc⟩, hiw, hih, hf, hw1, hw8, hh1, hh8⟩ := hp
  have hj : J k 0 = lN c := hj
  have hiw : I k 1 = nI w := hiw
  have hf : fitN c w h := hf
  have hc : c < 2 ^ 64 := hc
  have hw1 : 1 ≤ w := hw1
  have hw8 : w ≤ 8 := hw8
  have hh8 : h ≤ 8 := hh8
  have loop : ∀ j b, j + b = 64 → G 4 [some (.ref k), some (.long (lN (tov c w b))), none, some (.int (nI b))] [] a I J Q := by
    intro j
    induction j with
    | zero =>
      intro b hb
      obtain rfl : b = 64 := by omega
      refine cl [4] 60 4 _ _ _ _ _ _ ?_
      exact And.intro (fun _ => hR _ rfl) (fun c => absurd (by decide) c)
    | succ j ih =>
      intro b hb
      have hb64 : b < 64 := by omega
      have ih' := ih (b + 1) (by omega)
      rw [← nI_1] at ih'
      refine cl [4] 60 4 _ _ _ _ _ _ ?_
      refine And.intro (fun c => absurd c (nI_ge (a := b) (b := 64) (by omega) (by decide))) (fun _ => cko (isOb_ck ho) (And.intro (fun (c2 : lg_cmp (((J k 0).toUInt64 >>> ((nI b).toInt64.toUInt64 &&& Int64.toUInt64 63)).toInt64 &&& 1) 0 = 0) => ?_) (fun (c2 : ¬ lg_cmp (((J k 0).toUInt64 >>> ((nI b).toInt64.toUInt64 &&& Int64.toUInt64 63)).toInt64 &&& 1) 0 = 0) => ?_)))
      · rw [hj, bitN hc hb64] at c2
        rw [show tov c w (b + 1) = tov c w b by show (if _ then _ else _) = _; rw [if_neg (by rw [c2]; decide)]] at ih'
        exact ih'
      · rw [hj, bitN hc hb64, Bool.not_eq_false] at c2
        have hfb := hf b c2
        refine cko (isOb_ck ho) (And.intro (by decide) (And.intro (by decide) (Exists.intro (w - 1 - b % 8, b / 8) (And.intro (show [Value.int (I k 1 - 1 - (nI b - nI b / 8 * 8)), Value.int (nI b / 8)] = [Value.int (nI (w - 1 - b % 8)), Value.int (nI (b / 8))] from ?_) (And.intro (show 8 * (b / 8) + (w - 1 - b % 8) < 64 by omega) ?_)))))
        · rw [rem8 b hb64, div8 b hb64, hiw, show (1 : Int32) = nI 1 from rfl, pk_sub hw1, pk_sub (by omega)]
        · rw [show tov c w (b + 1) = tov c w b ||| 2 ^ (8 * (b / 8) + (w - 1 - b % 8)) by show (if _ then _ else _) = _; rw [if_pos c2], ← wb_or (tov_lt hf hw8 hh8 b) (Nat.pow_lt_pow_right (by decide) (by omega))] at ih'
          exact ih'
  refine cl [4] 60 0 _ _ _ _ _ _ ?_
  exact loop 64 0 rfl
abbrev e_qt : Nat × Nat × Nat → List Value := fun x => [.long (lN x.1), .int (nI x.2.2)]
theorem v_qt (n : Nat) (h : 3 ≤ n) (x : Nat × Nat × Nat) : okv (e_qt x) ∧ (lvA (e_qt x)).length ≤ n := ⟨okv_long (okv_int okv_nil), h⟩
def e_quarter : ev := (2, 99, false, 0, 0, sf e_qt (fun x _ _ _ _ => x.1 < 2 ^ 64 ∧ fitN x.1 x.2.1 x.2.2 ∧ x.2.1 ≤ 8 ∧ 1 ≤ x.2.2 ∧ x.2.2 ≤ 8) (fun x _ _ _ _ => some (.long (lN (qtn x.1 x.2.2 64)))))
set_option maxRecDepth 20000 in
theorem c_quarter {l : Launch} {tF : hTF} {qF : hQF} {base : Nat} : CM l tF qF base cdX7_quarterTurned e_quarter := by
  refine cm_sf RX7 edX7_quarterTurned [e_cellAt] false kX7_quarterTurned cwX7_quarterTurned okX7_quarterTurned ⟨⟨_, rfl, c_cellAt⟩, trivial⟩ (by decide) rfl (v_qt _ (by decide)) ?_
  intro um zm G Rt ⟨c, w, h⟩ a I J Q cl hb hp hR
  obtain ⟨hc, hf, hw8, hh1, hh8⟩ := hp
  have hf : fitN c w h := hf
  have hc : c < 2 ^ 64 := hc
  have hw8 : w ≤ 8 := hw8
  have hh1 : 1 ≤ h := hh1
  have hh8 : h ≤ 8 := hh8
  have loop : ∀ j b, j + b = 64 → G 5 [some (.long (lN c)), none, some (.int (nI h)), some (.long (lN (qtn c h b))), none, some (.int (nI b))] [] a I J Q := by
    intro j
    induction j with
    | zero =>
      intro b hb
      obtain rfl : b = 64 := by omega
      refine cl [5] 60 5 _ _ _ _ _ _ ?_
      exact And.intro (fun _ => hR _ rfl) (fun c => absurd (by decide) c)
    | succ j ih =>
      intro b hb
      have hb64 : b < 64 := by omega
      have ih' := ih (b + 1) (by omega)
      rw [← nI_1] at ih'
      refine cl [5] 60 5 _ _ _ _ _ _ ?_
      refine And.intro (fun c => absurd c (nI_ge (a := b) (b := 64) (by omega) (by decide))) (fun _ => And.intro (fun (c2 : lg_cmp (((lN c).toUInt64 >>> ((nI b).toInt64.toUInt64 &&& Int64.toUInt64 63)).toInt64 &&& 1) 0 = 0) => ?_) (fun (c2 : ¬ lg_cmp (((lN c).toUInt64 >>> ((nI b).toInt64.toUInt64 &&& Int64.toUInt64 63)).toInt64 &&& 1) 0 = 0) => ?_))
      · rw [bitN hc hb64] at c2
        rw [show qtn c h (b + 1) = qtn c h b by show (if _ then _ else _) = _; rw [if_neg (by rw [c2]; decide)]] at ih'
        exact ih'
      · rw [bitN hc hb64, Bool.not_eq_false] at c2
        have hfb := hf b c2
        refine And.intro (by decide) (And.intro (by decide) (Exists.intro (h - 1 - b / 8, b % 8) (And.intro (show [Value.int (nI h - 1 - nI b / 8), Value.int (nI b - nI b / 8 * 8)] = [Value.int (nI (h - 1 - b / 8)), Value.int (nI (b % 8))] from ?_) (And.intro (show 8 * (b % 8) + (h - 1 - b / 8) < 64 by omega) ?_))))
        · rw [rem8 b hb64, div8 b hb64, show (1 : Int32) = nI 1 from rfl, pk_sub hh1, pk_sub (by omega)]
        · rw [show qtn c h (b + 1) = qtn c h b ||| 2 ^ (8 * (b % 8) + (h - 1 - b / 8)) by show (if _ then _ else _) = _; rw [if_pos c2], ← wb_or (qtn_lt hf hw8 hh8 b) (Nat.pow_lt_pow_right (by decide) (by omega))] at ih'
          exact ih'
  refine cl [5] 60 0 _ _ _ _ _ _ ?_
  exact loop 64 0 rfl
