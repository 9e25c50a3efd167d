/-! slit -/
theorem wi_nat1 {x : Int32} {n : Nat} (hn : n < 2 ^ 31) (h : wi x 1 (nI n) = true) : ∃ j, 1 ≤ j ∧ j ≤ n ∧ x = nI j := by
  unfold wi at h
  rw [Bool.and_eq_true, decide_eq_true_iff, decide_eq_true_iff] at h
  have h0 : ¬ x < 0 := fun c => absurd (Int32.lt_of_le_of_lt h.1 c) (by decide)
  obtain ⟨j, hj, rfl⟩ := nI_of h0
  have h1 : nI 1 ≤ nI j := h.1
  rw [nI_leI (by decide) hj] at h1
  exact ⟨j, h1, (nI_leI hj hn).mp h.2, rfl⟩
theorem fil_ex (w0 w1 w2 : Nat) : ∀ width, ∃ filled, filled ≤ width ∧ (∃ x, pT w0 w1 w2 filled filled = some x) ∧ ∀ j, filled < j → j ≤ width → pT w0 w1 w2 j j = none
  | 0 => ⟨0, Nat.le_refl _, ⟨0, rfl⟩, fun j h1 h2 => by omega⟩
  | w + 1 => by
    cases e : pT w0 w1 w2 (w + 1) (w + 1) with
    | some x => exact ⟨w + 1, Nat.le_refl _, ⟨x, e⟩, fun j h1 h2 => by omega⟩
    | none =>
      obtain ⟨f, h1, h2, h3⟩ := fil_ex w0 w1 w2 w
      refine ⟨f, by omega, h2, fun j k1 k2 => ?_⟩
      by_cases c : j = w + 1
      · rw [c]; exact e
      · exact h3 j k1 (by omega)
abbrev i_slit : ev := (6, 9, false, 0, 0, inl false 0 0 [e_within, e_price, e_answer] false false kX9_slit 6)
theorem c_slit9 {l : Launch} : CX l cdX9_slit i_slit := cm_inl RX9 edX9_slit [e_within, e_price, e_answer] false false kX9_slit cwX9_slit okX9_slit ⟨⟨_, rfl, c_within⟩, ⟨_, rfl, c_price⟩, ⟨_, rfl, c_answer⟩, trivial⟩ (by decide) rfl (fun h => Bool.noConfusion h)
set_option maxRecDepth 20000 in
theorem o_slit (wd v0 v1 v2 wt : Int32) : opI i_slit e_rslit [.ref 0, .int wd, .int v0, .int v1, .int v2, .int wt] [.ref 31, .int wd, .int v0, .int v1, .int v2, .int wt] := by
  intro a I J Q h
  have ha := h.1
  have hrel : ∀ I2 J2, fr I I2 [58, 59] → frJ J J2 [22] → relE a I2 J2 Q := fun I2 J2 f fj => relE_fr h ⟨fun k _ _ k3 => f k (by simp at k3 ⊢; omega), fun j _ _ => by rw [f 0 (by decide)], fun j _ => by rw [f 31 (by decide)]⟩ (fun k hk => fj k (by simp at hk ⊢; omega)) ⟨by rw [f 0 (by decide), f 31 (by decide)]; exact h.2.1.1, by rw [f 0 (by decide), f 31 (by decide)]; exact h.2.1.2⟩
  have hno : ¬ slR wd v0 v1 v2 wt → (60 ≤ a.1 ∧ e_rslit.2.2.2.2.2 [.ref 31, .int wd, .int v0, .int v1, .int v2, .int wt] a I J Q (fun w a2 I2 J2 Q2 => (∃ x, some (Value.int (-2)) = some (.int x) ∧ w = some (.int x)) ∧ relE a2 I2 J2 Q2)) := fun hn => by
    refine And.intro ha (Exists.intro (wd, v0, v1, v2, wt) (And.intro rfl (And.intro trivial ?_)))
    rintro w I2 J2 Q2 ⟨rfl, rfl, f, hs⟩
    exact ⟨⟨_, rfl, hs.2 hn⟩, hrel I2 _ f (frJ_refl _ _)⟩
  refine Exists.intro (wd, 1, 2000) (And.intro rfl (And.intro trivial (bI_cases' (wi wd 1 2000) (fun r1 => ?_) (fun r1 => hno (fun hs => by rw [hs.1] at r1; cases r1)))))
  refine Exists.intro (wt, 0, 4) (And.intro rfl (And.intro trivial (bI_cases (wi wt 0 4) (fun r2 => ?_) (fun r2 => hno (fun hs => by rw [hs.2.2.2.2.2] at r2; cases r2)))))
  refine Exists.intro (v0, 0, 500) (And.intro rfl (And.intro trivial (bI_cases' (wi v0 0 500) (fun r3 => ?_) (fun r3 => hno (fun hs => by rw [hs.2.1] at r3; cases r3)))))
  refine Exists.intro (v1, 0, 500) (And.intro rfl (And.intro trivial (bI_cases' (wi v1 0 500) (fun r4 => ?_) (fun r4 => hno (fun hs => by rw [hs.2.2.1] at r4; cases r4)))))
  refine Exists.intro (v2, 0, 500) (And.intro rfl (And.intro trivial (bI_cases (wi v2 0 500) (fun r5 => ?_) (fun r5 => hno (fun hs => by rw [hs.2.2.2.1] at r5; cases r5)))))
  obtain ⟨width, hw1, hw2, rfl⟩ := wi_nat1 (n := 2000) (by decide) r1
  obtain ⟨what, hwt, rfl⟩ := wi_nat (n := 4) (by decide) r2
  obtain ⟨w0, h0, rfl⟩ := wi_nat (n := 500) (by decide) r3
  obtain ⟨w1, h1, rfl⟩ := wi_nat (n := 500) (by decide) r4
  obtain ⟨w2, h2, rfl⟩ := wi_nat (n := 500) (by decide) r5
  have hsum : (nI w0 + nI w1 + nI w2 ≤ 0) ↔ (w0 = 0 ∧ w1 = 0 ∧ w2 = 0) := by
    rw [nI_add, nI_add, show (0 : Int32) = nI 0 from rfl, nI_leI (by omega) (by decide)]
    omega
  have hz : ∀ w, w ≤ 500 → (nI w = 0 ↔ w = 0) := fun w hw => by rw [show (0 : Int32) = nI 0 from rfl, nI_eq (by omega) (by decide)]
  have core : ¬ (w0 = 0 ∧ w1 = 0 ∧ w2 = 0) → ∀ (v : Option Value) (I1 : hI) (J1 : hJ) (Q1 : hQ), (v = none ∧ I1 = I ∧ Q1 = Q ∧ (∀ k', k' ≠ 22 → J1 k' = J k') ∧ ∀ j, j ≤ width → J1 22 j = pI (pT w0 w1 w2 width j)) → ∃ filled n0 n1 n2, (filled ≤ width ∧ J1 22 filled = lN (prN n0 n1 n2) ∧ (n0 ≤ 2000 ∧ n1 ≤ 2000 ∧ n2 ≤ 2000) ∧ ∀ j, filled < j → j ≤ width → J1 22 j = -1) ∧ (60 ≤ a.1 ∧ e_rslit.2.2.2.2.2 [.ref 31, .int (nI width), .int (nI w0), .int (nI w1), .int (nI w2), .int (nI what)] a I1 J1 Q1 (fun w a2 I2 J2 Q2 => (∃ x, some (Value.int (nI (anV width what filled n0 n1 n2))) = some (.int x) ∧ w = some (.int x)) ∧ relE a2 I2 J2 Q2)) := by
    rintro hnz v I1 J1 Q1 ⟨rfl, rfl, rfl, fJ, hJ⟩
    obtain ⟨filled, f1, ⟨x, f2⟩, f3⟩ := fil_ex w0 w1 w2 width
    obtain ⟨n0, n1, n2, hb, hx, b0, b1, b2⟩ := pT_best (by omega) f2
    have hsl : slN width w0 w1 w2 what filled n0 n1 n2 := ⟨⟨hw1, hw2⟩, ⟨h0, h1, h2⟩, hwt, f1, hb, fun j j1 j2 m0 m1 m2 hwy => by
      obtain ⟨y, hy, _⟩ := pT_min _ _ _ _ _ _ _ hwy
      rw [f3 j j1 j2] at hy
      cases hy⟩
    refine ⟨filled, n0, n1, n2, ⟨f1, by rw [hJ filled f1, pT_st _ _ _ _ _ f1, f2, hx]; rfl, ⟨b0, b1, b2⟩, fun j j1 j2 => by rw [hJ j j2, pT_st _ _ _ _ _ j2, f3 j j1 j2]; rfl⟩, And.intro ha (Exists.intro (nI width, nI w0, nI w1, nI w2, nI what) (And.intro rfl (And.intro trivial ?_)))⟩
    rintro w I2 J2 Q2 ⟨rfl, rfl, f, hs⟩
    obtain ⟨a', b', c', d', e', fl, m0, m1, m2, ⟨x1, x2, x3, x4, x5⟩, hs2, hv⟩ := hs.1 ⟨r1, r3, r4, r5, fun c => hnz (hsum.mp c), r2⟩
    obtain ⟨⟨y1, y2⟩, ⟨y3, y4, y5⟩, y6, -⟩ := id hs2
    obtain rfl := (nI_eq (by omega) (by omega)).mp x1
    obtain rfl := (nI_eq (by omega) (by omega)).mp x2
    obtain rfl := (nI_eq (by omega) (by omega)).mp x3
    obtain rfl := (nI_eq (by omega) (by omega)).mp x4
    obtain rfl := (nI_eq (by omega) (by omega)).mp x5
    obtain ⟨rfl, rfl, rfl, rfl⟩ := slN_one hsl hs2
    exact ⟨⟨_, rfl, hv⟩, hrel I2 _ f (fun k hk => fJ k (by simpa using hk))⟩
  have go : ¬ (w0 = 0 ∧ w1 = 0 ∧ w2 = 0) → ∀ K : hR, (∀ (v : Option Value) (I1 : hI) (J1 : hJ) (Q1 : hQ), (v = none ∧ I1 = I ∧ Q1 = Q ∧ (∀ k', k' ≠ 22 → J1 k' = J k') ∧ ∀ j, j ≤ width → J1 22 j = pI (pT w0 w1 w2 width j)) → K v a I1 J1 Q1) → e_price.2.2.2.2.2 [.ref 21, .int (nI width), .int (nI w0), .int (nI w1), .int (nI w2)] a I J Q K := fun _ K hK => Exists.intro (width, w0, w1, w2) (And.intro rfl (And.intro ⟨⟨hw1, hw2⟩, h0, h1, h2⟩ hK))
  refine And.intro (fun (c : ¬ nI w0 = 0) => ?_) (fun (c : nI w0 = 0) => And.intro (fun (c1 : ¬ nI w1 = 0) => ?_) (fun (c1 : nI w1 = 0) => And.intro (fun (c2 : ¬ nI w2 = 0) => ?_) (fun (c2 : nI w2 = 0) => hno (fun hs => hs.2.2.2.2.1 (hsum.mpr ⟨(hz w0 h0).mp c, (hz w1 h1).mp c1, (hz w2 h2).mp c2⟩)))))
  · have hn : ¬ (w0 = 0 ∧ w1 = 0 ∧ w2 = 0) := fun e => c ((hz w0 h0).mpr e.1)
    refine go hn _ (fun v I1 J1 Q1 hp => ?_)
    obtain ⟨filled, n0, n1, n2, ⟨g1, g2, g3, g4⟩, g5⟩ := core hn v I1 J1 Q1 hp
    obtain ⟨rfl, -⟩ := hp
    exact Exists.intro (width, what, filled, n0, n1, n2) (And.intro rfl (And.intro ⟨hw2, hwt, g1, g2, g3, g4⟩ g5))
  · have hn : ¬ (w0 = 0 ∧ w1 = 0 ∧ w2 = 0) := fun e => c1 ((hz w1 h1).mpr e.2.1)
    refine go hn _ (fun v I1 J1 Q1 hp => ?_)
    obtain ⟨filled, n0, n1, n2, ⟨g1, g2, g3, g4⟩, g5⟩ := core hn v I1 J1 Q1 hp
    obtain ⟨rfl, -⟩ := hp
    exact Exists.intro (width, what, filled, n0, n1, n2) (And.intro rfl (And.intro ⟨hw2, hwt, g1, g2, g3, g4⟩ g5))
  · have hn : ¬ (w0 = 0 ∧ w1 = 0 ∧ w2 = 0) := fun e => c2 ((hz w2 h2).mpr e.2.2)
    refine go hn _ (fun v I1 J1 Q1 hp => ?_)
    obtain ⟨filled, n0, n1, n2, ⟨g1, g2, g3, g4⟩, g5⟩ := core hn v I1 J1 Q1 hp
    obtain ⟨rfl, -⟩ := hp
    exact Exists.intro (width, what, filled, n0, n1, n2) (And.intro rfl (And.intro ⟨hw2, hwt, g1, g2, g3, g4⟩ g5))
