/-! Coil: prices -/
def pw (P : Nat → Option Nat) (u strip price : Nat) : Option Nat := if strip = 0 ∨ u < strip then none else (P (u - strip)).map (fun x => x + price)
def prOK (J : hJ) (P : Nat → Option Nat) (n : Nat) : Prop := ∀ j, j < n → J 22 j = pI (P j) ∧ ∀ x, P j = some x → x < 2 ^ 60
abbrev x_pw : Type := Nat × Nat × Nat × (Nat → Option Nat)
abbrev e_pw : x_pw → List Value := fun x => [.ref 21, .int (nI x.1), .int (nI x.2.1), .long (lN x.2.2.1)]
theorem v_pw (n : Nat) (h : 5 ≤ n) (x : x_pw) : okv (e_pw x) ∧ (lvA (e_pw x)).length ≤ n := ⟨okv_ref (okv_int (okv_int (okv_long okv_nil))), h⟩
def e_priceW : ev := (4, 0, false, 0, 0, sf e_pw (fun x _ _ J _ => x.1 ≤ 2000 ∧ x.2.1 ≤ 2000 ∧ x.2.2.1 < 2 ^ 60 ∧ prOK J x.2.2.2 x.1) (fun x _ _ _ _ => some (.long (pI (pw x.2.2.2 x.1 x.2.1 x.2.2.1)))))
set_option maxRecDepth 20000 in
theorem c_priceW {l : Launch} : CX l cdX0_priceWith e_priceW := by
  refine cm_sf RX0 edX0_priceWith [] false kX0_priceWith cwX0_priceWith okX0_priceWith trivial (by decide) rfl (v_pw _ (by decide)) ?_
  intro um zm G Rt ⟨u, s, pr, P⟩ a I J Q cl hb hp hR
  obtain ⟨hu, hs, hpr, hP⟩ := hp
  have hu : u ≤ 2000 := hu
  have hs : s ≤ 2000 := hs
  have hpr : pr < 2 ^ 60 := hpr
  have hP : prOK J P u := hP
  refine cl [] 60 0 _ _ _ _ _ _ ?_
  refine And.intro (fun (c : nI s = 0) => ?_) (fun (c : ¬ nI s = 0) => And.intro (fun (c2 : nI u < nI s) => ?_) (fun (c2 : ¬ nI u < nI s) => ?_))
  · have h0 : s = 0 := by
      rcases Nat.eq_zero_or_pos s with h | h
      · exact h
      · exact absurd c (nI_ne0 h (by omega))
    exact hR _ (by show some (Value.long (pI none)) = some (Value.long (pI (pw P u s pr))); unfold pw; rw [if_pos (Or.inl h0)])
  · have h1 : u < s := (nI_ltI (by omega) (by omega)).mp c2
    exact hR _ (by show some (Value.long (pI none)) = some (Value.long (pI (pw P u s pr))); unfold pw; rw [if_pos (Or.inr h1)])
  · have h0 : s ≠ 0 := fun h => c (by rw [h]; rfl)
    have h1 : ¬ u < s := fun h => c2 (nI_lt h (by omega))
    have es : nI u - nI s = nI (u - s) := pk_sub (by omega)
    have ecl : (nI u - nI s).toNatClampNeg = u - s := by rw [es]; exact nI_clamp (by omega)
    have hin : vp_in (nI u - nI s) 2001 := by rw [es]; exact vp_in_nI (by omega) (by decide)
    have hPj := hP (u - s) (by omega)
    have epw : pw P u s pr = (P (u - s)).map (fun x => x + pr) := if_neg (by omega)
    refine And.intro hin (And.intro (fun (c3 : 0 ≤ lg_cmp (J 22 (nI u - nI s).toNatClampNeg) 0) => And.intro hin ?_) (fun (c3 : ¬ 0 ≤ lg_cmp (J 22 (nI u - nI s).toNatClampNeg) 0) => ?_))
    · rw [lg_cmp_ge, ecl, hPj.1] at c3
      have := hR (some (.long (J 22 (nI u - nI s).toNatClampNeg + lN pr))) ?_
      · exact this
      · show some (Value.long (J 22 (nI u - nI s).toNatClampNeg + lN pr)) = some (Value.long (pI (pw P u s pr)))
        rw [ecl, hPj.1, epw]
        cases hx : P (u - s) with
        | none => rw [hx] at c3; exact absurd c3 (by decide)
        | some x =>
          show some (Value.long (lN x + lN pr)) = some (Value.long (lN (x + pr)))
          rw [lN_add]
    · rw [lg_cmp_ge, ecl, hPj.1] at c3
      refine hR _ ?_
      show some (Value.long (pI none)) = some (Value.long (pI (pw P u s pr)))
      rw [epw]
      cases hx : P (u - s) with
      | none => rfl
      | some x =>
        rw [hx] at c3
        exact absurd (by rw [show (0 : Int64) = lN 0 from rfl]; exact (pk_lLE (by decide) (by have := hPj.2 x hx; omega)).mpr (Nat.zero_le x)) c3
/-- the prices up to n -/
def pT (w0 w1 w2 : Nat) : Nat → Nat → Option Nat
  | 0, j => if j = 0 then some 0 else none
  | n + 1, j => if j = n + 1 then olt (olt (pw (pT w0 w1 w2 n) (n + 1) w0 4192256) (pw (pT w0 w1 w2 n) (n + 1) w1 4194303)) (pw (pT w0 w1 w2 n) (n + 1) w2 4194304) else pT w0 w1 w2 n j
theorem pw_le {P : Nat → Option Nat} {u s pr : Nat} (hP : ∀ j x, P j = some x → x ≤ j * 4194304) (hpr : pr ≤ 4194304) : ∀ x, pw P u s pr = some x → x ≤ u * 4194304 := by
  intro x hx
  unfold pw at hx
  split at hx
  · cases hx
  · rename_i hn
    cases h : P (u - s) with
    | none => rw [h] at hx; cases hx
    | some y =>
      rw [h] at hx
      cases hx
      have := hP _ _ h
      have h2 : (u - s) * 4194304 + 4194304 ≤ u * 4194304 := by
        have : (u - s) + 1 ≤ u := by omega
        calc (u - s) * 4194304 + 4194304 = ((u - s) + 1) * 4194304 := by omega
          _ ≤ u * 4194304 := Nat.mul_le_mul_right _ this
      show y + pr ≤ u * 4194304
      omega
theorem olt_le {a b : Option Nat} {n : Nat} (ha : ∀ x, a = some x → x ≤ n) (hb : ∀ x, b = some x → x ≤ n) : ∀ x, olt a b = some x → x ≤ n := by
  intro x hx
  cases a with
  | none => exact hb x (by cases b <;> exact hx)
  | some y =>
    cases b with
    | none => exact ha x hx
    | some z =>
      replace hx : (if z < y then some z else some y) = some x := hx
      split at hx
      · exact hb x hx
      · exact ha x hx
theorem pT_le (w0 w1 w2 : Nat) : ∀ n j x, pT w0 w1 w2 n j = some x → x ≤ j * 4194304
  | 0, j, x, h => by
    unfold pT at h
    split at h
    · cases h; omega
    · cases h
  | n + 1, j, x, h => by
    have ih := pT_le w0 w1 w2 n
    unfold pT at h
    split at h
    · rename_i hj
      rw [hj]
      exact olt_le (olt_le (pw_le ih (by decide)) (pw_le ih (by decide))) (pw_le ih (by decide)) x h
    · exact ih j x h
abbrev x_pr : Type := Nat × Nat × Nat × Nat
abbrev e_pr : x_pr → List Value := fun x => [.ref 21, .int (nI x.1), .int (nI x.2.1), .int (nI x.2.2.1), .int (nI x.2.2.2)]
theorem v_pr (n : Nat) (h : 5 ≤ n) (x : x_pr) : okv (e_pr x) ∧ (lvA (e_pr x)).length ≤ n := ⟨okv_ref (okv_int (okv_int (okv_int (okv_int okv_nil)))), h⟩
def e_price : ev := (5, 0, false, 0, 0, sn e_pr (fun x _ _ _ _ => (1 ≤ x.1 ∧ x.1 ≤ 2000) ∧ x.2.1 ≤ 500 ∧ x.2.2.1 ≤ 500 ∧ x.2.2.2 ≤ 500) (fun x _ I J Q v I' J' Q' => v = none ∧ I' = I ∧ Q' = Q ∧ (∀ k', k' ≠ 22 → J' k' = J k') ∧ ∀ j, j ≤ x.1 → J' 22 j = pI (pT x.2.1 x.2.2.1 x.2.2.2 x.1 j)))
set_option maxRecDepth 20000 in
theorem c_price {l : Launch} : CX l cdX0_price e_price := by
  refine cm_sn RX0 edX0_price [e_priceW, e_lesser] false kX0_price cwX0_price okX0_price ⟨⟨_, rfl, c_priceW⟩, ⟨_, rfl, c_lesser⟩, trivial⟩ (by decide) rfl (v_pr _ (by decide)) ?_
  intro um zm G Rt ⟨width, w0, w1, w2⟩ a I J Q cl hb hp hR
  obtain ⟨⟨hw1, hw2⟩, h0, h1, h2⟩ := hp
  have hw1 : 1 ≤ width := hw1
  have hw2 : width ≤ 2000 := hw2
  have h0 : w0 ≤ 500 := h0
  have h1 : w1 ≤ 500 := h1
  have h2 : w2 ≤ 500 := h2
  have loop : ∀ k u v6 v8 v10 J', k + u = width + 1 → 1 ≤ u → (∀ k', k' ≠ 22 → J' k' = J k') → (∀ j, j < u → J' 22 j = pI (pT w0 w1 w2 (u - 1) j)) → G 10 [some (.ref 21), some (.int (nI width)), some (.int (nI w0)), some (.int (nI w1)), some (.int (nI w2)), some (.int (nI u)), v6, none, v8, none, v10, none] [] a I J' Q := by
    intro k
    induction k with
    | zero =>
      intro u v6 v8 v10 J' hk hu ho hr
      obtain rfl : u = width + 1 := by omega
      refine cl [10] 80 10 _ _ _ _ _ _ ?_
      exact And.intro (fun _ => hR _ _ _ _ ⟨rfl, rfl, rfl, ho, fun j hj => hr j (Nat.lt_succ_of_le hj)⟩) (fun c => absurd (nI_lt (a := width) (by omega) (by omega)) c)
    | succ k ih =>
      intro u v6 v8 v10 J' hk hu ho hr
      have hPr : prOK J' (pT w0 w1 w2 (u - 1)) u := fun j hj => ⟨hr j hj, fun x hx => by
        have := pT_le w0 w1 w2 _ _ _ hx
        have : j * 4194304 ≤ 2000 * 4194304 := Nat.mul_le_mul_right _ (by omega)
        omega⟩
      have hob : ∀ s pr, pr ≤ 4194304 → ob (pw (pT w0 w1 w2 (u - 1)) u s pr) := fun s pr hpr x hx => by
        have := pw_le (pT_le w0 w1 w2 (u - 1)) hpr x hx
        have : u * 4194304 ≤ 2000 * 4194304 := Nat.mul_le_mul_right _ (by omega)
        omega
      have hob2 : ob (olt (pw (pT w0 w1 w2 (u - 1)) u w0 4192256) (pw (pT w0 w1 w2 (u - 1)) u w1 4194303)) := fun x hx => by
        have := olt_le (pw_le (pT_le w0 w1 w2 (u - 1)) (by decide)) (pw_le (pT_le w0 w1 w2 (u - 1)) (by decide)) x hx
        have : u * 4194304 ≤ 2000 * 4194304 := Nat.mul_le_mul_right _ (by omega)
        omega
      refine cl [10] 80 10 _ _ _ _ _ _ ?_
      refine And.intro (fun c => absurd c (nI_nlt (a := width) (b := u) (by omega) (by omega))) (fun _ => ?_)
      refine Exists.intro (u, w0, 4192256, pT w0 w1 w2 (u - 1)) (And.intro rfl (And.intro (show u ≤ 2000 ∧ w0 ≤ 2000 ∧ 4192256 < 2 ^ 60 ∧ prOK J' (pT w0 w1 w2 (u - 1)) u from ⟨by omega, by omega, by decide, hPr⟩) ?_))
      refine Exists.intro (u, w1, 4194303, pT w0 w1 w2 (u - 1)) (And.intro rfl (And.intro (show u ≤ 2000 ∧ w1 ≤ 2000 ∧ 4194303 < 2 ^ 60 ∧ prOK J' (pT w0 w1 w2 (u - 1)) u from ⟨by omega, by omega, by decide, hPr⟩) ?_))
      refine Exists.intro (u, w2, 4194304, pT w0 w1 w2 (u - 1)) (And.intro rfl (And.intro (show u ≤ 2000 ∧ w2 ≤ 2000 ∧ 4194304 < 2 ^ 60 ∧ prOK J' (pT w0 w1 w2 (u - 1)) u from ⟨by omega, by omega, by decide, hPr⟩) ?_))
      refine Exists.intro (pw (pT w0 w1 w2 (u - 1)) u w0 4192256, pw (pT w0 w1 w2 (u - 1)) u w1 4194303) (And.intro rfl (And.intro ⟨hob w0 _ (by decide), hob w1 _ (by decide)⟩ ?_))
      refine Exists.intro (olt (pw (pT w0 w1 w2 (u - 1)) u w0 4192256) (pw (pT w0 w1 w2 (u - 1)) u w1 4194303), pw (pT w0 w1 w2 (u - 1)) u w2 4194304) (And.intro rfl (And.intro ⟨hob2, hob w2 _ (by decide)⟩ ?_))
      refine And.intro (show vp_in (nI u) 2001 from vp_in_nI (by omega) (by decide)) ?_
      have ecl : (nI u).toNatClampNeg = u := nI_clamp (by omega)
      have epT : ∀ j, pT w0 w1 w2 u j = if j = u then olt (olt (pw (pT w0 w1 w2 (u - 1)) u w0 4192256) (pw (pT w0 w1 w2 (u - 1)) u w1 4194303)) (pw (pT w0 w1 w2 (u - 1)) u w2 4194304) else pT w0 w1 w2 (u - 1) j := by
        intro j
        obtain ⟨n, rfl⟩ : ∃ n, u = n + 1 := ⟨u - 1, by omega⟩
        rfl
      have := ih (u + 1) (some (.long (pI (pw (pT w0 w1 w2 (u - 1)) u w0 4192256)))) (some (.long (pI (pw (pT w0 w1 w2 (u - 1)) u w1 4194303)))) (some (.long (pI (pw (pT w0 w1 w2 (u - 1)) u w2 4194304)))) (up2 J' 22 (nI u).toNatClampNeg (pI (olt (olt (pw (pT w0 w1 w2 (u - 1)) u w0 4192256) (pw (pT w0 w1 w2 (u - 1)) u w1 4194303)) (pw (pT w0 w1 w2 (u - 1)) u w2 4194304)))) (by omega) (by omega) (fun k' hk' => by rw [up2_ne hk']; exact ho k' hk') (fun j hj => ?_)
      · rw [← nI_1 u] at this
        exact this
      · rw [ecl, show u + 1 - 1 = u from rfl, epT]
        by_cases he : j = u
        · subst he; rw [up2_at, if_pos rfl]
        · rw [up2_nej he, if_neg he]; exact hr j (by omega)
  refine cl [10] 80 0 _ _ _ _ _ _ ?_
  refine And.intro (show vp_in 0 2001 from vp_in_nI (n := 0) (by decide) (by decide)) ?_
  have := loop width 1 none none none (up2 J 22 0 0) (by omega) (Nat.le_refl _) (fun k' hk' => up2_ne hk') (fun j hj => by
    obtain rfl : j = 0 := by omega
    rw [up2_at]; rfl)
  exact this
