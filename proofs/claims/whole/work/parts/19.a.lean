/-! isWithin -/
abbrev e3i : Int32 × Int32 × Int32 → List Value := fun x => [.int x.1, .int x.2.1, .int x.2.2]
abbrev e1i : Int32 → List Value := fun x => [.int x]
theorem v3i (n : Nat) (h : 3 ≤ n) (x : Int32 × Int32 × Int32) : okv (e3i x) ∧ (lvA (e3i x)).length ≤ n := ⟨okv_int (okv_int (okv_int okv_nil)), h⟩
theorem v1i (n : Nat) (h : 1 ≤ n) (x : Int32) : okv (e1i x) ∧ (lvA (e1i x)).length ≤ n := ⟨okv_int okv_nil, h⟩
def wi (v lo hi : Int32) : Bool := decide (lo ≤ v) && decide (v ≤ hi)
def e_within : ev := (3, 99, false, 0, 0, sf e3i (fun _ _ _ _ _ => True) (fun x _ _ _ _ => some (.int (bI (wi x.1 x.2.1 x.2.2)))))
theorem wi_lo {v lo hi : Int32} (h : v < lo) : wi v lo hi = false := by unfold wi; rw [decide_eq_false (Int32.not_le.mpr h)]; rfl
theorem wi_hi {v lo hi : Int32} (h : hi < v) : wi v lo hi = false := by unfold wi; rw [decide_eq_false (p := v ≤ hi) (Int32.not_le.mpr h), Bool.and_false]
theorem wi_in {v lo hi : Int32} (h : ¬ v < lo) (h2 : ¬ hi < v) : wi v lo hi = true := by unfold wi; rw [decide_eq_true (Int32.not_lt.mp h), decide_eq_true (Int32.not_lt.mp h2)]; rfl
set_option maxRecDepth 20000 in
theorem c_within {l : Launch} {tF : hTF} {qF : hQF} {base : Nat} : CM l tF qF base cdX9_isWithin e_within := by
  refine cm_sf RX9 edX9_isWithin [] true kX9_isWithin cwX9_isWithin okX9_isWithin trivial (by decide) rfl (v3i _ (by decide)) ?_
  intro um zm G Rt ⟨v, lo, hi⟩ a I J Q cl hb hp hR
  refine cl [] 50 0 _ _ _ _ _ _ ?_
  refine And.intro (fun c1 => And.intro (Or.inl rfl) (hR _ ?_)) (fun c1 => And.intro (fun c2 => And.intro (Or.inl rfl) (hR _ ?_)) (fun c2 => And.intro (Or.inr rfl) (hR _ ?_)))
  · simp only [wi_lo c1]; rfl
  · simp only [wi_hi c2]; rfl
  · simp only [wi_in c1 c2]; rfl
set_option maxRecDepth 20000 in
theorem c_rwithin {l : Launch} {tF : hTF} {qF : hQF} {base : Nat} : CM l tF qF base cdX10_within e_within := by
  refine cm_sf RX10 edX10_within [] true kX10_within cwX10_within okX10_within trivial (by decide) rfl (v3i _ (by decide)) ?_
  intro um zm G Rt ⟨v, lo, hi⟩ a I J Q cl hb hp hR
  refine cl [] 50 0 _ _ _ _ _ _ ?_
  refine And.intro (fun c1 => And.intro (Or.inl rfl) (hR _ ?_)) (fun c1 => And.intro (fun c2 => And.intro (Or.inl rfl) (hR _ ?_)) (fun c2 => And.intro (Or.inr rfl) (hR _ ?_)))
  · simp only [wi_lo c1]; rfl
  · simp only [wi_hi c2]; rfl
  · simp only [wi_in c1 c2]; rfl
/-- the bits of the eight lowest places, counted -/
def bits8 (v : Int32) : Nat → Int32
  | 0 => 0
  | n + 1 => bits8 v n + ((v >>> (nI n &&& 31)) &&& 1)
def e_bits : ev := (1, 99, false, 0, 0, sf e1i (fun _ _ _ _ _ => True) (fun x _ _ _ _ => some (.int (bits8 x 8))))
set_option maxRecDepth 20000 in
theorem c_bits {l : Launch} {tF : hTF} {qF : hQF} {base : Nat} : CM l tF qF base cdX10_bits e_bits := by
  refine cm_sf RX10 edX10_bits [] false kX10_bits cwX10_bits okX10_bits trivial (by decide) rfl (v1i _ (by decide)) ?_
  intro um zm G Rt v a I J Q cl hb hp hR
  refine cl [4] 50 0 _ _ _ _ _ _ ?_
  have loop : ∀ j k, j + k = 8 → G 4 [some (.int v), some (.int (bits8 v k)), some (.int (nI k))] [] a I J Q := by
    intro j
    induction j with
    | zero =>
      intro k hk
      obtain rfl : k = 8 := by omega
      refine cl [4] 50 4 _ _ _ _ _ _ ?_
      exact And.intro (fun _ => hR _ rfl) (fun c => absurd (by decide) c)
    | succ j ih =>
      intro k hk
      refine cl [4] 50 4 _ _ _ _ _ _ ?_
      refine And.intro (fun c => absurd c (nI_ge (a := k) (b := 8) (by omega) (by decide))) (fun c => ?_)
      have := ih (k + 1) (by omega)
      rw [← nI_1] at this
      exact this
  exact loop 8 0 rfl
