/-! Sheet: its loops -/
/-- the four sheets: 23, 25, 27, 29, and their cells behind them -/
def shK (b : Nat) : Nat := 23 + 2 * b
abbrev x_rn : Type := Nat × Int32 × Int32
abbrev e_rn : x_rn → List Value := fun x => [.ref (shK x.1), .int x.2.1, .int x.2.2]
theorem v_rn (n : Nat) (h : 3 ≤ n) (x : x_rn) : okv (e_rn x) ∧ (lvA (e_rn x)).length ≤ n := ⟨okv_ref (okv_int (okv_int okv_nil)), h⟩
def e_renew : ev := (3, 8, false, 0, 0, sn e_rn (fun x _ _ _ _ => x.1 < 4) (fun x _ I J Q v I' J' Q' => v = none ∧ J' = J ∧ Q' = Q ∧ (∀ k', k' ≠ shK x.1 → k' ≠ shK x.1 + 1 → I' k' = I k') ∧ I' (shK x.1) 1 = x.2.1 ∧ I' (shK x.1) 2 = x.2.2 ∧ ∀ i, i < 64 → I' (shK x.1 + 1) i = 0))
set_option maxRecDepth 20000 in
theorem c_renew {l : Launch} : CX l cdX8_renew e_renew := by
  refine cm_sn RX8 edX8_renew [] false kX8_renew cwX8_renew okX8_renew trivial (by decide) rfl (v_rn _ (by decide)) ?_
  intro um zm G Rt ⟨b, ln, n⟩ a I J Q cl hb hp hR
  have hb4 : b < 4 := hp
  rcases (show b = 0 ∨ b = 1 ∨ b = 2 ∨ b = 3 by omega) with rfl | rfl | rfl | rfl
  · have l1 : ∀ j r I', j + r = 64 → (∀ k', k' ≠ 23 → k' ≠ 24 → I' k' = I k') → I' 23 1 = ln → I' 23 2 = n → (∀ r', r' < r → I' 24 r' = 0) → G 12 [some (.ref 23), some (.int ln), some (.int n), some (.int (nI r))] [] a I' J Q := by
      intro j
      induction j with
      | zero =>
        intro r I' hj ho h1 h2 hr
        obtain rfl : r = 64 := by omega
        refine cl [12] 60 12 _ _ _ _ _ _ ?_
        exact And.intro (fun _ => hR _ _ _ _ ⟨rfl, rfl, rfl, ho, h1, h2, hr⟩) (fun c => absurd (by decide) c)
      | succ j ih =>
        intro r I' hj ho h1 h2 hr
        refine cl [12] 60 12 _ _ _ _ _ _ ?_
        refine And.intro (fun c => absurd c (nI_ge (a := r) (b := 64) (by omega) (by decide))) (fun _ => And.intro (show vp_in (nI r) 64 from vp_in_nI (by omega) (by decide)) ?_)
        have := ih (r + 1) (up2 I' 24 (nI r).toNatClampNeg 0) (by omega) (fun k' hk' hk2 => by rw [up2_ne hk2]; exact ho k' hk' hk2) (by rw [up2_ne (by decide)]; exact h1) (by rw [up2_ne (by decide)]; exact h2) (fun r' h' => ?_)
        · rw [← nI_1 r] at this
          exact this
        · rw [nI_clamp (by omega)]
          by_cases he : r' = r
          · subst he; rw [up2_at]
          · rw [up2_nej he]; exact hr r' (by omega)
    refine cl [12] 60 0 _ _ _ _ _ _ ?_
    exact l1 64 0 (up2 (up2 I 23 1 ln) 23 2 n) rfl (fun k' hk' _ => by rw [up2_ne hk', up2_ne hk']) (by rw [up2_nej (by decide), up2_at]) up2_at (fun r h => by omega)
  · have l1 : ∀ j r I', j + r = 64 → (∀ k', k' ≠ 25 → k' ≠ 26 → I' k' = I k') → I' 25 1 = ln → I' 25 2 = n → (∀ r', r' < r → I' 26 r' = 0) → G 12 [some (.ref 25), some (.int ln), some (.int n), some (.int (nI r))] [] a I' J Q := by
      intro j
      induction j with
      | zero =>
        intro r I' hj ho h1 h2 hr
        obtain rfl : r = 64 := by omega
        refine cl [12] 60 12 _ _ _ _ _ _ ?_
        exact And.intro (fun _ => hR _ _ _ _ ⟨rfl, rfl, rfl, ho, h1, h2, hr⟩) (fun c => absurd (by decide) c)
      | succ j ih =>
        intro r I' hj ho h1 h2 hr
        refine cl [12] 60 12 _ _ _ _ _ _ ?_
        refine And.intro (fun c => absurd c (nI_ge (a := r) (b := 64) (by omega) (by decide))) (fun _ => And.intro (show vp_in (nI r) 64 from vp_in_nI (by omega) (by decide)) ?_)
        have := ih (r + 1) (up2 I' 26 (nI r).toNatClampNeg 0) (by omega) (fun k' hk' hk2 => by rw [up2_ne hk2]; exact ho k' hk' hk2) (by rw [up2_ne (by decide)]; exact h1) (by rw [up2_ne (by decide)]; exact h2) (fun r' h' => ?_)
        · rw [← nI_1 r] at this
          exact this
        · rw [nI_clamp (by omega)]
          by_cases he : r' = r
          · subst he; rw [up2_at]
          · rw [up2_nej he]; exact hr r' (by omega)
    refine cl [12] 60 0 _ _ _ _ _ _ ?_
    exact l1 64 0 (up2 (up2 I 25 1 ln) 25 2 n) rfl (fun k' hk' _ => by rw [up2_ne hk', up2_ne hk']) (by rw [up2_nej (by decide), up2_at]) up2_at (fun r h => by omega)
  · have l1 : ∀ j r I', j + r = 64 → (∀ k', k' ≠ 27 → k' ≠ 28 → I' k' = I k') → I' 27 1 = ln → I' 27 2 = n → (∀ r', r' < r → I' 28 r' = 0) → G 12 [some (.ref 27), some (.int ln), some (.int n), some (.int (nI r))] [] a I' J Q := by
      intro j
      induction j with
      | zero =>
        intro r I' hj ho h1 h2 hr
        obtain rfl : r = 64 := by omega
        refine cl [12] 60 12 _ _ _ _ _ _ ?_
        exact And.intro (fun _ => hR _ _ _ _ ⟨rfl, rfl, rfl, ho, h1, h2, hr⟩) (fun c => absurd (by decide) c)
      | succ j ih =>
        intro r I' hj ho h1 h2 hr
        refine cl [12] 60 12 _ _ _ _ _ _ ?_
        refine And.intro (fun c => absurd c (nI_ge (a := r) (b := 64) (by omega) (by decide))) (fun _ => And.intro (show vp_in (nI r) 64 from vp_in_nI (by omega) (by decide)) ?_)
        have := ih (r + 1) (up2 I' 28 (nI r).toNatClampNeg 0) (by omega) (fun k' hk' hk2 => by rw [up2_ne hk2]; exact ho k' hk' hk2) (by rw [up2_ne (by decide)]; exact h1) (by rw [up2_ne (by decide)]; exact h2) (fun r' h' => ?_)
        · rw [← nI_1 r] at this
          exact this
        · rw [nI_clamp (by omega)]
          by_cases he : r' = r
          · subst he; rw [up2_at]
          · rw [up2_nej he]; exact hr r' (by omega)
    refine cl [12] 60 0 _ _ _ _ _ _ ?_
    exact l1 64 0 (up2 (up2 I 27 1 ln) 27 2 n) rfl (fun k' hk' _ => by rw [up2_ne hk', up2_ne hk']) (by rw [up2_nej (by decide), up2_at]) up2_at (fun r h => by omega)
  · have l1 : ∀ j r I', j + r = 64 → (∀ k', k' ≠ 29 → k' ≠ 30 → I' k' = I k') → I' 29 1 = ln → I' 29 2 = n → (∀ r', r' < r → I' 30 r' = 0) → G 12 [some (.ref 29), some (.int ln), some (.int n), some (.int (nI r))] [] a I' J Q := by
      intro j
      induction j with
      | zero =>
        intro r I' hj ho h1 h2 hr
        obtain rfl : r = 64 := by omega
        refine cl [12] 60 12 _ _ _ _ _ _ ?_
        exact And.intro (fun _ => hR _ _ _ _ ⟨rfl, rfl, rfl, ho, h1, h2, hr⟩) (fun c => absurd (by decide) c)
      | succ j ih =>
        intro r I' hj ho h1 h2 hr
        refine cl [12] 60 12 _ _ _ _ _ _ ?_
        refine And.intro (fun c => absurd c (nI_ge (a := r) (b := 64) (by omega) (by decide))) (fun _ => And.intro (show vp_in (nI r) 64 from vp_in_nI (by omega) (by decide)) ?_)
        have := ih (r + 1) (up2 I' 30 (nI r).toNatClampNeg 0) (by omega) (fun k' hk' hk2 => by rw [up2_ne hk2]; exact ho k' hk' hk2) (by rw [up2_ne (by decide)]; exact h1) (by rw [up2_ne (by decide)]; exact h2) (fun r' h' => ?_)
        · rw [← nI_1 r] at this
          exact this
        · rw [nI_clamp (by omega)]
          by_cases he : r' = r
          · subst he; rw [up2_at]
          · rw [up2_nej he]; exact hr r' (by omega)
    refine cl [12] 60 0 _ _ _ _ _ _ ?_
    exact l1 64 0 (up2 (up2 I 29 1 ln) 29 2 n) rfl (fun k' hk' _ => by rw [up2_ne hk', up2_ne hk']) (by rw [up2_nej (by decide), up2_at]) up2_at (fun r h => by omega)
