theorem vko {a : hA} {k ci : Nat} {b : Bool} {P : Prop} (ho : isOb a k ci) (hb : b = true) (p : P) : ck (b && cin 60 a k && Nat.beq (tE tX a.2.2.2 k).1 ci) P := by
  rw [hb, ho.1, ho.2, Nat.beq_refl]
  exact p
theorem tov_bit {c w : Nat} (i : Nat) : ∀ n, (tov c w n).testBit i = true ↔ ∃ b, b < n ∧ c.testBit b = true ∧ i = 8 * (b / 8) + (w - 1 - b % 8)
  | 0 => ⟨fun h => by simp [tov] at h, fun ⟨b, h, _⟩ => by omega⟩
  | n + 1 => by
    have ih := tov_bit (c := c) (w := w) i n
    unfold tov
    split
    · rename_i hb
      rw [Nat.testBit_or, Bool.or_eq_true, ih, Nat.testBit_two_pow, decide_eq_true_eq]
      constructor
      · rintro (⟨b, h1, h2, h3⟩ | h)
        · exact ⟨b, by omega, h2, h3⟩
        · exact ⟨n, by omega, hb, h.symm⟩
      · rintro ⟨b, h1, h2, h3⟩
        rcases Nat.lt_or_ge b n with h | h
        · exact Or.inl ⟨b, h, h2, h3⟩
        · obtain rfl : b = n := by omega
          exact Or.inr h3.symm
    · rename_i hb
      rw [ih]
      constructor
      · rintro ⟨b, h1, h2, h3⟩
        exact ⟨b, by omega, h2, h3⟩
      · rintro ⟨b, h1, h2, h3⟩
        rcases Nat.lt_or_ge b n with h | h
        · exact ⟨b, h, h2, h3⟩
        · obtain rfl : b = n := by omega
          exact absurd h2 hb
theorem qtn_bit {c h : Nat} (i : Nat) : ∀ n, (qtn c h n).testBit i = true ↔ ∃ b, b < n ∧ c.testBit b = true ∧ i = 8 * (b % 8) + (h - 1 - b / 8)
  | 0 => ⟨fun h => by simp [qtn] at h, fun ⟨b, h, _⟩ => by omega⟩
  | n + 1 => by
    have ih := qtn_bit (c := c) (h := h) i n
    unfold qtn
    split
    · rename_i hb
      rw [Nat.testBit_or, Bool.or_eq_true, ih, Nat.testBit_two_pow, decide_eq_true_eq]
      constructor
      · rintro (⟨b, h1, h2, h3⟩ | h)
        · exact ⟨b, by omega, h2, h3⟩
        · exact ⟨n, by omega, hb, h.symm⟩
      · rintro ⟨b, h1, h2, h3⟩
        rcases Nat.lt_or_ge b n with h | h
        · exact Or.inl ⟨b, h, h2, h3⟩
        · obtain rfl : b = n := by omega
          exact Or.inr h3.symm
    · rename_i hb
      rw [ih]
      constructor
      · rintro ⟨b, h1, h2, h3⟩
        exact ⟨b, by omega, h2, h3⟩
      · rintro ⟨b, h1, h2, h3⟩
        rcases Nat.lt_or_ge b n with h | h
        · exact ⟨b, h, h2, h3⟩
        · obtain rfl : b = n := by omega
          exact absurd h2 hb
theorem tov_fit {c w h : Nat} (hf : fitN c w h) (hw : w ≤ 8) : fitN (tov c w 64) w h := by
  intro i hi
  obtain ⟨b, -, h2, rfl⟩ := (tov_bit i 64).mp hi
  have := hf b h2
  omega
theorem qtn_fit {c w h : Nat} (hf : fitN c w h) (hh : h ≤ 8) (hw : w ≤ 8) : fitN (qtn c h 64) h w := by
  intro i hi
  obtain ⟨b, -, h2, rfl⟩ := (qtn_bit i 64).mp hi
  have := hf b h2
  omega
def qit : Nat → Nat → Nat → Nat → Nat
  | 0, c, _, _ => c
  | n + 1, c, w, h => qit n (qtn c h 64) h w
/-- TURN t of a shape -/
def trn (c w h t : Nat) : Nat := qit (t % 4) (if 3 < t then tov c w 64 else c) w h
abbrev e_tr : Nat × Nat × Nat × Nat × Nat → List Value := fun x => [.ref x.1, .int (nI x.2.2.2.2)]
theorem v_tr (n : Nat) (h : 2 ≤ n) (x : Nat × Nat × Nat × Nat × Nat) : okv (e_tr x) ∧ (lvA (e_tr x)).length ≤ n := ⟨okv_ref (okv_int okv_nil), h⟩
def e_turned : ev := (2, 7, false, 0, 0, sf e_tr (fun x a I J _ => shw a I J x.1 x.2.1 x.2.2.1 x.2.2.2.1 ∧ x.2.2.2.2 < 8) (fun x _ _ _ _ => some (.long (lN (trn x.2.1 x.2.2.1 x.2.2.2.1 x.2.2.2.2)))))
set_option maxRecDepth 20000 in
theorem c_turned {l : Launch} : CX l cdX7_turned e_turned := by
  refine cm_sf RX7 edX7_turned [e_over, e_quarter] false kX7_turned cwX7_turned okX7_turned ⟨⟨_, rfl, c_over⟩, ⟨_, rfl, c_quarter⟩, trivial⟩ (by decide) rfl (v_tr _ (by decide)) ?_
  intro um zm G Rt ⟨k, c, w, h, t⟩ a I J Q cl hb hp hR
  obtain ⟨hsw, ht8⟩ := hp
  have hsw : shw a I J k c w h := hsw
  have ht8 : t < 8 := ht8
  obtain ⟨⟨ho, hj, hc⟩, hiw, hih, hf, hw1, hw8, hh1, hh8⟩ := id hsw
  have h3 : nI t &&& 3 = nI (t % 4) := fa_mask t 2
  have loop : ∀ j i m x y v7, j + i = t % 4 → m < 2 ^ 64 → fitN m x y → 1 ≤ x → x ≤ 8 → 1 ≤ y → y ≤ 8 → qit j m x y = trn c w h t → G 32 [some (.ref k), some (.int (nI t)), some (.long (lN m)), none, some (.int (nI y)), some (.int (nI x)), some (.int (nI i)), v7] [] a I J Q := by
    intro j
    induction j with
    | zero =>
      intro i m x y v7 hi hm hfm hx1 hx8 hy1 hy8 he
      refine cl [32] 60 32 _ _ _ _ _ _ ?_
      refine And.intro (fun _ => hR _ ?_) (fun (c2 : ¬ (nI t &&& 3) ≤ nI i) => absurd ?_ c2)
      · show some (Value.long (lN m)) = some (Value.long (lN (trn c w h t)))
        rw [← he]; rfl
      · rw [h3]; exact nI_le (by omega) (by omega)
    | succ j ih =>
      intro i m x y v7 hi hm hfm hx1 hx8 hy1 hy8 he
      refine cl [32] 60 32 _ _ _ _ _ _ ?_
      refine And.intro (fun (c2 : (nI t &&& 3) ≤ nI i) => absurd c2 ?_) (fun _ => ?_)
      · rw [h3]; exact nI_ge (by omega) (by omega)
      · refine Exists.intro (m, x, y) (And.intro rfl (And.intro ⟨hm, hfm, hx8, hy1, hy8⟩ ?_))
        have := ih (i + 1) (qtn m y 64) y x (some (.int (nI y))) (by omega) (qtn_lt hfm hx8 hy8 64) (qtn_fit hfm hy8 hx8) hy1 hy8 hx1 hx8 he
        rw [← nI_1] at this
        exact this
  refine cl [32] 60 0 _ _ _ _ _ _ ?_
  refine And.intro (fun (c2 : nI t ≤ 3) => ?_) (fun (c2 : ¬ nI t ≤ 3) => ?_)
  · have ht3 : ¬ 3 < t := fun h9 => absurd c2 (nI_ge (a := 3) (b := t) h9 (by omega))
    refine cko (isOb_ck ho) (cko (isOb_ck ho) (cko (isOb_ck ho) ?_))
    have := loop (t % 4) 0 c w h none (by omega) hc hf hw1 hw8 hh1 hh8 (by unfold trn; rw [if_neg ht3])
    rw [← hj, ← hiw, ← hih] at this
    exact this
  · have ht3 : 3 < t := by
      rcases Nat.lt_or_ge 3 t with h9 | h9
      · exact h9
      · exact absurd (nI_le (a := t) (b := 3) h9 (by decide)) c2
    refine vko ho rfl (Exists.intro (k, c, w, h) (And.intro rfl (And.intro hsw ?_)))
    · refine cko (isOb_ck ho) (cko (isOb_ck ho) ?_)
      have := loop (t % 4) 0 (tov c w 64) w h none (by omega) (tov_lt hf hw8 hh8 64) (tov_fit hf hw8) hw1 hw8 hh1 hh8 (by unfold trn; rw [if_pos ht3])
      rw [← hiw, ← hih] at this
      exact this
