/-! REFERENCE: sheet, shape -/
def rshD (I I' : hI) (b : Nat) (ln n : Int32) : Prop := fr I I' [31, 38, 39, 40] ∧ (∀ j, I' 31 j = up2 I 31 0 0 31 j) ∧ (∀ k, k ≠ b → I' 38 k = I 38 k) ∧ I' 38 b = ln ∧ (∀ k, k ≠ b → I' 39 k = I 39 k) ∧ I' 39 b = n ∧ (∀ k, (k < 64 * b ∨ 64 * b + 64 ≤ k) → I' 40 k = I 40 k) ∧ ∀ i, i < 64 → I' 40 (64 * b + i) = 0
def rshP (I I' : hI) (b ln n : Int32) (v : Option Value) : Prop := (wi b 0 3 = false → v = some (.int (-1)) ∧ I' = up2 I 31 0 0) ∧ (wi b 0 3 = true → ((wi ln 0 2 = false ∨ ¬ n ≤ 64) → v = some (.int (-2)) ∧ I' = up2 I 31 0 0) ∧ (wi ln 0 2 = true → n ≤ 64 → (¬ 0 ≤ n → v = some (.int (-14)) ∧ I' = up2 (up2 I 31 0 0) 31 0 4) ∧ (0 ≤ n → v = some (.int 1) ∧ rshD I I' b.toNatClampNeg ln n)))
def e_rsheet : ev := (4, 10, false, 0, 0, sn em3 (fun _ _ _ _ _ => True) (fun x _ I J Q v I' J' Q' => J' = J ∧ Q' = Q ∧ rshP I I' x.1 x.2.1 x.2.2 v))
set_option maxRecDepth 20000 in
theorem c_rsheet {l : Launch} : CX l cdX10_sheet e_rsheet := by
  refine cm_sn RX10 edX10_sheet [e_within, e_fails] false kX10_sheet cwX10_sheet okX10_sheet ⟨⟨_, rfl, c_rwithin⟩, ⟨_, rfl, c_fails⟩, trivial⟩ (by decide) rfl (vm3 _ (by decide)) ?_
  intro um zm G Rt ⟨x, ln, n⟩ a I J Q cl hb hp hR
  have hR : ∀ v I' J' Q', (J' = J ∧ Q' = Q ∧ rshP I I' x ln n v) → Rt v a I' J' Q' := hR
  refine cl [16, 31, 34, 44, 61] 90 0 _ _ _ _ _ _ ?_
  refine Exists.intro (x, 0, 3) (And.intro rfl (And.intro trivial ?_))
  refine bI_cases (wi x 0 3) (fun r1 => ?_) (fun r1 => hR _ _ _ _ ⟨rfl, rfl, fun _ => ⟨rfl, rfl⟩, fun h => by (rw [h] at r1; cases r1)⟩)
  refine cl [31, 34, 44, 61] 90 16 _ _ _ _ _ _ ?_
  have g31 : (wi ln 0 2 = false ∨ ¬ n ≤ 64) → G 31 [some (.ref 31), some (.int x), some (.int ln), some (.int n), none] [] a (up2 I 31 0 0) J Q := fun h => by
    refine cl [34, 44, 61] 90 31 _ _ _ _ _ _ ?_
    exact hR _ _ _ _ ⟨rfl, rfl, fun h => by (rw [h] at r1; cases r1), fun _ => ⟨fun _ => ⟨rfl, rfl⟩, fun h1 h2 => by
      rcases h with h | h
      · rw [h] at h1; cases h1
      · exact absurd h2 h⟩⟩
  refine Exists.intro (ln, 0, 2) (And.intro rfl (And.intro trivial ?_))
  refine bI_cases' (wi ln 0 2) (fun r2 => ?_) (fun r2 => g31 (Or.inl r2))
  refine And.intro (fun (c : n ≤ 64) => ?_) (fun (c : ¬ n ≤ 64) => g31 (Or.inr c))
  refine cl [44, 61] 90 34 _ _ _ _ _ _ ?_
  refine And.intro (fun (c2 : 0 ≤ n) => ?_) (fun (c2 : ¬ 0 ≤ n) => ?_)
  · obtain ⟨b, hb3, rfl⟩ := wi_nat (n := 3) (by decide) r1
    have ecb : (nI b).toNatClampNeg = b := nI_clamp (by omega)
    have hin : vp_in (nI b) 4 := vp_in_nI (by omega) (by decide)
    have loop : ∀ d i (I' : hI), d + i = 64 → fr I I' [31, 38, 39, 40] → (∀ j, I' 31 j = up2 I 31 0 0 31 j) → (∀ k, k ≠ b → I' 38 k = I 38 k) → I' 38 b = ln → (∀ k, k ≠ b → I' 39 k = I 39 k) → I' 39 b = n → (∀ k, (k < 64 * b ∨ 64 * b + 64 ≤ k) → I' 40 k = I 40 k) → (∀ k, k < i → I' 40 (64 * b + k) = 0) → G 61 [some (.ref 31), some (.int (nI b)), some (.int ln), some (.int n), some (.int (nI i))] [] a I' J Q := by
      intro d
      induction d with
      | zero =>
        intro i I' hd h1 h2 h3 h4 h5 h6 h7 h8
        obtain rfl : i = 64 := by omega
        refine cl [44, 61] 90 61 _ _ _ _ _ _ ?_
        exact And.intro (fun _ => hR _ _ _ _ ⟨rfl, rfl, fun h => by (rw [h] at r1; cases r1), fun _ => ⟨fun h => by
          rcases h with h | h
          · rw [h] at r2; cases r2
          · exact absurd c h, fun _ _ => ⟨fun h => absurd c2 h, fun _ => ⟨rfl, by rw [ecb]; exact ⟨h1, h2, h3, h4, h5, h6, h7, h8⟩⟩⟩⟩⟩) (fun c => absurd (by decide) c)
      | succ d ih =>
        intro i I' hd h1 h2 h3 h4 h5 h6 h7 h8
        have e1 : 64 * nI b + nI i = nI (64 * b + i) := by rw [show (64 : Int32) = nI 64 from rfl, pk_mul, nI_add]
        have ec : (64 * nI b + nI i).toNatClampNeg = 64 * b + i := by rw [e1]; exact nI_clamp (by omega)
        refine cl [44, 61] 90 61 _ _ _ _ _ _ ?_
        refine And.intro (fun c => absurd c (nI_ge (a := i) (b := 64) (by omega) (by decide))) (fun _ => And.intro (show vp_in (64 * nI b + nI i) 256 from by rw [e1]; exact vp_in_nI (by omega) (by decide)) ?_)
        have := ih (i + 1) (up2 I' 40 (64 * nI b + nI i).toNatClampNeg 0) (by omega) (fr_up h1 (by decide)) (fun j => by rw [up2_ne (by decide)]; exact h2 j) (fun k hk => by rw [up2_ne (by decide)]; exact h3 k hk) (by rw [up2_ne (by decide)]; exact h4) (fun k hk => by rw [up2_ne (by decide)]; exact h5 k hk) (by rw [up2_ne (by decide)]; exact h6) (fun k hk => by rw [ec, up2_nej (by omega)]; exact h7 k hk) (fun k hk => by
          rw [ec]
          by_cases e : k = i
          · subst e; rw [up2_at]
          · rw [up2_nej (by omega)]; exact h8 k (by omega))
        rw [← nI_1 i] at this
        exact this
    refine cl [61] 90 44 _ _ _ _ _ _ ?_
    refine And.intro hin (And.intro hin ?_)
    have := loop 64 0 (up2 (up2 (up2 I 31 0 0) 38 (nI b).toNatClampNeg ln) 39 (nI b).toNatClampNeg n) rfl (fr_up (fr_up (fr_up (fr_refl _ _) (by decide)) (by decide)) (by decide)) (fun j => by rw [up2_ne (by decide), up2_ne (by decide)]) (fun k hk => by rw [up2_ne (by decide), ecb, up2_nej hk, up2_ne (by decide)]) (by rw [up2_ne (by decide), ecb, up2_at]) (fun k hk => by rw [ecb, up2_nej hk, up2_ne (by decide), up2_ne (by decide)]) (by rw [ecb, up2_at]) (fun k _ => by rw [up2_ne (by decide), up2_ne (by decide), up2_ne (by decide)]) (fun k hk => by omega)
    exact this
  · refine Exists.intro 4 (And.intro rfl (And.intro trivial ?_))
    rintro v I2 J2 Q2 ⟨rfl, rfl, rfl, rfl⟩
    exact hR _ _ _ _ ⟨rfl, rfl, fun h => by (rw [h] at r1; cases r1), fun _ => ⟨fun h => by
      rcases h with h | h
      · rw [h] at r2; cases r2
      · exact absurd c h, fun _ _ => ⟨fun _ => ⟨rfl, rfl⟩, fun h => absurd h c2⟩⟩⟩
