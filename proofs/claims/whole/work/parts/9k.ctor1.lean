/-! constructors of the class's parts -/
theorem rs1 {a : hA} {k : Nat} (h : k < a.1) : ∀ v, v ∈ [Value.ref k] → rlt a.1 v := fun v hv => by
  rcases List.mem_cons.mp hv with rfl | hv
  · exact h
  · cases hv
theorem rs2 {a : hA} {k k' : Nat} (h : k < a.1) (h' : k' < a.1) : ∀ v, v ∈ [Value.ref k, Value.ref k'] → rlt a.1 v := fun v hv => by
  rcases List.mem_cons.mp hv with rfl | hv
  · exact h
  · exact rs1 h' v hv
theorem msp {A B C : Bool} {u u' z z' m n : Nat} {P : Prop} (h1 : (A && B && C) = true) (hu : u ≤ u') (hz : z ≤ z') (p : P) : ck (A && B && C && (Nat.beq m 0 || Nat.ble u u') && (Nat.beq n 0 || Nat.ble z z')) P := by
  have e1 : Nat.ble u u' = true := Nat.ble_eq_true_of_le hu
  have e2 : Nat.ble z z' = true := Nat.ble_eq_true_of_le hz
  rw [h1, e1, e2, Bool.or_true, Bool.or_true]
  exact p
theorem io_at {a : hA} {ci n y : Nat} : isO0 (hnew a n (ci, y)) a.1 ci := ⟨Nat.lt_succ_self _, by
  show (va_up a.2.2.2 a.1 (ci, y) a.1).1 = ci
  rw [vup_at]⟩
def e_nearI : ev := (1, 99, true, 1, 16, sp e_ob (fun k a _ _ _ => isO0 a k 3) (fun k a I J Q v a' I' J' Q' => v = none ∧ a' = hnew a 16 (11, 16) ∧ I' = zI0 I a.1 ∧ J' = zJ0 J a.1 ∧ Q' = up2 (zQ0 Q a.1) k 0 (some a.1)))
set_option maxRecDepth 20000 in
theorem c_nearI {l : Launch} : CM l tN qN 0 cdX3_init e_nearI := by
  refine cm_spi RX3 edX3_init [] false kX3_init cwX3_init okX3_init trivial (by decide) rfl rfl (v_ob _ (by decide)) ?_
  intro G Rt k a I J Q cl hb hp hR
  have ho : isO0 a k 3 := hp
  refine cl [] 60 0 _ _ _ _ _ _ ?_
  refine And.intro ⟨rfl, fun _ => rfl⟩ (And.intro (rok_of ⟨ho.1, trivial⟩ (rs1 ho.1)) (And.intro ⟨Nat.le_refl _, Nat.le_refl _⟩ ?_))
  refine pkr0 (io_new ho) rfl rfl (Nat.lt_succ_self _) ?_
  exact hR _ _ _ _ _ ⟨rfl, rfl, rfl, rfl, rfl⟩
def e_coilI : ev := (1, 99, true, 1, 2001, sp e_ob (fun k a _ _ _ => isO0 a k 0) (fun k a I J Q v a' I' J' Q' => v = none ∧ a' = hnew a 2001 (12, 2001) ∧ I' = zI0 I a.1 ∧ J' = zJ0 J a.1 ∧ Q' = up2 (zQ0 Q a.1) k 0 (some a.1)))
set_option maxRecDepth 20000 in
theorem c_coilI {l : Launch} : CM l tN qN 0 cdX0_init e_coilI := by
  refine cm_spi RX0 edX0_init [] false kX0_init cwX0_init okX0_init trivial (by decide) rfl rfl (v_ob _ (by decide)) ?_
  intro G Rt k a I J Q cl hb hp hR
  have ho : isO0 a k 0 := hp
  refine cl [] 60 0 _ _ _ _ _ _ ?_
  refine And.intro ⟨rfl, fun _ => rfl⟩ (And.intro (rok_of ⟨ho.1, trivial⟩ (rs1 ho.1)) (And.intro ⟨Nat.le_refl _, Nat.le_refl _⟩ ?_))
  refine pkr0 (io_new ho) rfl rfl (Nat.lt_succ_self _) ?_
  exact hR _ _ _ _ _ ⟨rfl, rfl, rfl, rfl, rfl⟩
def e_sheetI : ev := (1, 99, true, 1, 64, sp e_ob (fun k a _ _ _ => isO0 a k 8) (fun k a I J Q v a' I' J' Q' => v = none ∧ a' = hnew a 64 (11, 64) ∧ I' = up2 (zI0 I a.1) k 1 (-1) ∧ J' = zJ0 J a.1 ∧ Q' = up2 (zQ0 Q a.1) k 0 (some a.1)))
set_option maxRecDepth 20000 in
theorem c_sheetI {l : Launch} : CM l tN qN 0 cdX8_init e_sheetI := by
  refine cm_spi RX8 edX8_init [] false kX8_init cwX8_init okX8_init trivial (by decide) rfl rfl (v_ob _ (by decide)) ?_
  intro G Rt k a I J Q cl hb hp hR
  have ho : isO0 a k 8 := hp
  refine cl [] 60 0 _ _ _ _ _ _ ?_
  refine And.intro ⟨rfl, fun _ => rfl⟩ (And.intro (rok_of ⟨ho.1, trivial⟩ (rs1 ho.1)) (And.intro ⟨Nat.le_refl _, Nat.le_refl _⟩ ?_))
  refine pkr0 (io_new ho) rfl rfl (Nat.lt_succ_self _) ?_
  refine pk0 (io_new ho) rfl ?_
  exact hR _ _ _ _ _ ⟨rfl, rfl, rfl, rfl, rfl⟩
def e_pressI : ev := (1, 99, true, 2, 14, sp e_ob (fun k a _ _ _ => isO0 a k 5) (fun k a I J Q v a' I' J' Q' => v = none ∧ a' = hnew (hnew a 10 (11, 10)) 4 (11, 4) ∧ I' = zI0 (zI0 I a.1) (a.1 + 1) ∧ J' = zJ0 (zJ0 J a.1) (a.1 + 1) ∧ Q' = up2 (zQ0 (up2 (zQ0 Q a.1) k 0 (some a.1)) (a.1 + 1)) k 1 (some (a.1 + 1))))
set_option maxRecDepth 20000 in
theorem c_pressI {l : Launch} : CM l tN qN 0 cdX5_init e_pressI := by
  refine cm_spi RX5 edX5_init [] false kX5_init cwX5_init okX5_init trivial (by decide) rfl rfl (v_ob _ (by decide)) ?_
  intro G Rt k a I J Q cl hb hp hR
  have ho : isO0 a k 5 := hp
  have ho1 := io_new (n := 10) (x := (11, 10)) ho
  refine cl [] 60 0 _ _ _ _ _ _ ?_
  refine And.intro ⟨rfl, fun _ => rfl⟩ (And.intro (rok_of ⟨ho.1, trivial⟩ (rs1 ho.1)) (And.intro ⟨(show a.2.1 + 1 ≤ a.2.1 + 2 by omega), (show a.2.2.1 + 10 ≤ a.2.2.1 + 14 by omega)⟩ ?_))
  refine pkr0 ho1 rfl rfl (Nat.lt_succ_self _) ?_
  refine And.intro ⟨rfl, fun _ => rfl⟩ (And.intro (rok_of ⟨ho1.1, trivial⟩ (rs1 ho1.1)) (And.intro ⟨(show a.2.1 + 1 + 1 ≤ a.2.1 + 2 by omega), (show a.2.2.1 + 10 + 4 ≤ a.2.2.1 + 14 by omega)⟩ ?_))
  refine pkr0 (io_new ho1) rfl rfl (Nat.lt_succ_self _) ?_
  exact hR _ _ _ _ _ ⟨rfl, rfl, rfl, rfl, rfl⟩
def e_planI : ev := (1, 99, true, 4, 3082, sp e_ob (fun k a _ _ _ => isO0 a k 4) (fun k a I J Q v a' I' J' Q' => v = none ∧ a' = hnew (hnew (hnew (hnew a 10 (11, 10)) 1024 (11, 1024)) 1024 (12, 1024)) 1024 (12, 1024) ∧ I' = zI0 (zI0 (zI0 (zI0 I a.1) (a.1 + 1)) (a.1 + 2)) (a.1 + 3) ∧ J' = zJ0 (zJ0 (zJ0 (zJ0 J a.1) (a.1 + 1)) (a.1 + 2)) (a.1 + 3) ∧ Q' = up2 (zQ0 (up2 (zQ0 (up2 (zQ0 (up2 (zQ0 Q a.1) k 2 (some a.1)) (a.1 + 1)) k 3 (some (a.1 + 1))) (a.1 + 2)) k 4 (some (a.1 + 2))) (a.1 + 3)) k 5 (some (a.1 + 3))))
set_option maxRecDepth 20000 in
theorem c_planI {l : Launch} : CM l tN qN 0 cdX4_init e_planI := by
  refine cm_spi RX4 edX4_init [] false kX4_init cwX4_init okX4_init trivial (by decide) rfl rfl (v_ob _ (by decide)) ?_
  intro G Rt k a I J Q cl hb hp hR
  have ho : isO0 a k 4 := hp
  have ho1 := io_new (n := 10) (x := (11, 10)) ho
  have ho2 := io_new (n := 1024) (x := (11, 1024)) ho1
  have ho3 := io_new (n := 1024) (x := (12, 1024)) ho2
  have ho4 := io_new (n := 1024) (x := (12, 1024)) ho3
  refine cl [] 60 0 _ _ _ _ _ _ ?_
  refine And.intro ⟨rfl, fun _ => rfl⟩ (And.intro (rok_of ⟨ho.1, trivial⟩ (rs1 ho.1)) (And.intro ⟨(show a.2.1 + 1 ≤ a.2.1 + 4 by omega), (show a.2.2.1 + 10 ≤ a.2.2.1 + 3082 by omega)⟩ ?_))
  refine pkr0 ho1 rfl rfl (Nat.lt_succ_self _) ?_
  refine And.intro ⟨rfl, fun _ => rfl⟩ (And.intro (rok_of ⟨ho1.1, trivial⟩ (rs1 ho1.1)) (And.intro ⟨(show a.2.1 + 1 + 1 ≤ a.2.1 + 4 by omega), (show a.2.2.1 + 10 + 1024 ≤ a.2.2.1 + 3082 by omega)⟩ ?_))
  refine pkr0 ho2 rfl rfl (Nat.lt_succ_self _) ?_
  refine And.intro ⟨rfl, fun _ => rfl⟩ (And.intro (rok_of ⟨ho2.1, trivial⟩ (rs1 ho2.1)) (And.intro ⟨(show a.2.1 + 1 + 1 + 1 ≤ a.2.1 + 4 by omega), (show a.2.2.1 + 10 + 1024 + 1024 ≤ a.2.2.1 + 3082 by omega)⟩ ?_))
  refine pkr0 ho3 rfl rfl (Nat.lt_succ_self _) ?_
  refine And.intro ⟨rfl, fun _ => rfl⟩ (And.intro (rok_of ⟨ho3.1, trivial⟩ (rs1 ho3.1)) (And.intro ⟨(show a.2.1 + 1 + 1 + 1 + 1 ≤ a.2.1 + 4 by omega), (show a.2.2.1 + 10 + 1024 + 1024 + 1024 ≤ a.2.2.1 + 3082 by omega)⟩ ?_))
  refine pkr0 ho4 rfl rfl (Nat.lt_succ_self _) ?_
  exact hR _ _ _ _ _ ⟨rfl, rfl, rfl, rfl, rfl⟩
/-! the multiples -/
theorem mul_bits {x y : Nat} (h : ∀ b, x.testBit b = true ↔ y.testBit b = true) : x = y := Nat.eq_of_testBit_eq (fun b => by
  cases hx : x.testBit b with
  | true => exact ((h b).mp hx).symm
  | false =>
    cases hy : y.testBit b with
    | false => rfl
    | true => rw [(h b).mpr hy] at hx; cases hx)
theorem mul_first {p : Nat} (hp : 1 ≤ p) : mulL p p = 0 := mul_bits (fun b => by
  rw [mulL_bit, Nat.zero_testBit]
  exact ⟨fun h => by omega, fun h => by cases h⟩)
theorem mul_add {d p b : Nat} (hp : 1 ≤ p) (hd : d % p = 0) (h1 : d < b) (h2 : b < d + p) : ¬ b % p = 0 := fun h => by
  obtain ⟨x, hx⟩ := Nat.dvd_of_mod_eq_zero hd
  obtain ⟨y, hy⟩ := Nat.dvd_of_mod_eq_zero h
  rw [hx, hy] at h1
  rw [hx, hy] at h2
  have h3 : x < y := Nat.lt_of_mul_lt_mul_left h1
  have h4 : p * (x + 1) ≤ p * y := Nat.mul_le_mul_left p h3
  rw [Nat.mul_add, Nat.mul_one] at h4
  omega
theorem mul_next {p d : Nat} (hp : 1 ≤ p) (hd : d % p = 0) (h : p ≤ d) : mulL p d ||| 2 ^ d = mulL p (d + p) := mul_bits (fun b => by
  rw [Nat.testBit_or, Nat.testBit_two_pow, Bool.or_eq_true, decide_eq_true_iff, mulL_bit, mulL_bit]
  constructor
  · rintro (⟨h1, h2, h3⟩ | rfl)
    · exact ⟨by omega, h2, h3⟩
    · exact ⟨by omega, h, hd⟩
  · rintro ⟨h1, h2, h3⟩
    by_cases e : d = b
    · exact Or.inr e
    · refine Or.inl ⟨?_, h2, h3⟩
      rcases Nat.lt_or_ge b d with c | c
      · exact c
      · exact absurd h3 (mul_add hp hd (by omega) h1))
theorem mul_end {p d : Nat} (hp : 1 ≤ p) (hd : d % p = 0) (h : p ≤ d) (h1 : 64 ≤ d) (h2 : d < 64 + p) : mulL p d = mulN p := mul_bits (fun b => by
  unfold mulN
  rw [mulL_bit, mulL_bit]
  constructor
  · rintro ⟨k1, k2, k3⟩
    refine ⟨?_, k2, k3⟩
    rcases Nat.lt_or_ge b 64 with c | c
    · exact c
    · exfalso
      have hd2 : (d - p) % p = 0 := by
        have : (d - p + p) % p = (d - p) % p := Nat.add_mod_right _ _
        rw [Nat.sub_add_cancel h] at this
        rw [← this]; exact hd
      exact mul_add (d := d - p) hp hd2 (by omega) (by omega) k3
  · rintro ⟨k1, k2, k3⟩
    exact ⟨by omega, k2, k3⟩)
