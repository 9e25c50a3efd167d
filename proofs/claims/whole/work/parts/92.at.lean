/-! at -/
def raF (lane n ln i : Int32) : Int32 := if lane = -9 then 1 else if lane = ln then (if wi i 0 (n - 1) = true then 0 else 3) else 2
abbrev vLost : Value := .long (-9223372036854775808)
set_option maxRecDepth 20000 in
theorem zz_rat {x i ln : Int32} {a : hA} {I : hI} {J : hJ} {Q : hQ} {K : hR} (h0 : (wi x 0 3 = false ∨ wi ln 0 2 = false) → K (some vLost) a (up2 I 31 0 0) J Q) (h1 : ∀ b, b < 4 → x = nI b → wi ln 0 2 = true → (∀ e, raF (I 38 b) (I 39 b) ln i = e → ¬ e = 0 → K (some vLost) a (up2 (up2 I 31 0 0) 31 0 e) J Q) ∧ (raF (I 38 b) (I 39 b) ln i = 0 → ∃ j, j < 64 ∧ i = nI j ∧ K (some (.long (I 40 (64 * b + j)).toInt64)) a (up2 I 31 0 0) J Q)) : i_rat.2.2.2.2.2 [.ref 31, .int x, .int i, .int ln] a I J Q K := by
  refine Exists.intro (x, 0, 3) (And.intro rfl (And.intro trivial (bI_cases' (wi x 0 3) (fun r1 => ?_) (fun r1 => h0 (Or.inl r1)))))
  refine Exists.intro (ln, 0, 2) (And.intro rfl (And.intro trivial (bI_cases (wi ln 0 2) (fun r2 => ?_) (fun r2 => h0 (Or.inr r2)))))
  obtain ⟨b, hb3, rfl⟩ := wi_nat (n := 3) (by decide) r1
  obtain ⟨g1, g2⟩ := h1 b (by omega) rfl r2
  have ecb : (nI b).toNatClampNeg = b := nI_clamp (by omega)
  have hin : vp_in (nI b) 4 := vp_in_nI (by omega) (by decide)
  have e38 : up2 I 31 0 0 38 (nI b).toNatClampNeg = I 38 b := by rw [up2_ne (by decide), ecb]
  have e39 : up2 I 31 0 0 39 (nI b).toNatClampNeg = I 39 b := by rw [up2_ne (by decide), ecb]
  refine And.intro hin (And.intro (fun (c : up2 I 31 0 0 38 (nI b).toNatClampNeg = -9) => ?_) (fun (c : ¬ up2 I 31 0 0 38 (nI b).toNatClampNeg = -9) => ?_))
  · refine And.intro hin (And.intro (fun (c' : ¬ up2 I 31 0 0 38 (nI b).toNatClampNeg = -9) => absurd c c') (fun _ => ?_))
    rw [e38] at c
    refine Exists.intro 1 (And.intro rfl (And.intro trivial ?_))
    rintro w I2 J2 Q2 ⟨rfl, rfl, rfl, rfl⟩
    exact g1 1 (by unfold raF; rw [if_pos c]) (by decide)
  · refine And.intro hin (And.intro (fun (c1 : up2 I 31 0 0 38 (nI b).toNatClampNeg = ln) => ?_) (fun (c1 : ¬ up2 I 31 0 0 38 (nI b).toNatClampNeg = ln) => ?_))
    · refine And.intro hin (And.intro (fun (_ : ¬ up2 I 31 0 0 38 (nI b).toNatClampNeg = -9) => ?_) (fun c' => absurd c' c))
      rw [e38] at c c1
      refine And.intro hin (Exists.intro (i, 0, up2 I 31 0 0 39 (nI b).toNatClampNeg - 1) (And.intro rfl (And.intro trivial (bI_cases (wi i 0 (up2 I 31 0 0 39 (nI b).toNatClampNeg - 1)) (fun r => ?_) (fun r => ?_)))))
      · rw [e39] at r
        obtain ⟨j, hj, rfl, hk⟩ := g2 (by unfold raF; rw [if_neg c, if_pos c1, if_pos r])
        have e1 : 64 * nI b + nI j = nI (64 * b + j) := by rw [show (64 : Int32) = nI 64 from rfl, pk_mul, nI_add]
        have ec : (64 * nI b + nI j).toNatClampNeg = 64 * b + j := by rw [e1]; exact nI_clamp (by omega)
        have hin2 : vp_in (64 * nI b + nI j) 256 := by rw [e1]; exact vp_in_nI (by omega) (by decide)
        refine And.intro hin2 ?_
        have e40 : up2 I 31 0 0 40 (64 * nI b + nI j).toNatClampNeg = I 40 (64 * b + j) := by rw [up2_ne (by decide), ec]
        rw [← e40] at hk
        exact hk
      · rw [e39] at r
        refine Exists.intro 3 (And.intro rfl (And.intro trivial ?_))
        rintro w I2 J2 Q2 ⟨rfl, rfl, rfl, rfl⟩
        exact g1 3 (by unfold raF; rw [if_neg c, if_pos c1, if_neg (by rw [r]; decide)]) (by decide)
    · rw [e38] at c c1
      refine Exists.intro 2 (And.intro rfl (And.intro trivial ?_))
      rintro w I2 J2 Q2 ⟨rfl, rfl, rfl, rfl⟩
      exact g1 2 (by unfold raF; rw [if_neg c, if_neg c1]) (by decide)
theorem rSb_at {I : hI} {b : Nat} {i ln : Int32} (h : rSb I b) : fof I (shK b) ln i 1 = raF (I 38 b) (I 39 b) ln i ∧ (raF (I 38 b) (I 39 b) ln i = 0 → ∃ j, j < 64 ∧ i = nI j ∧ I (shK b + 1) j = I 40 (64 * b + j)) := by
  have hp := rSb_put (i := i) h
  have h9 := rSb_lost h
  rcases hp with ⟨k1, k2⟩ | ⟨k1, k2, hp⟩
  · unfold fof raF
    rw [if_pos (h9.mpr k2), if_pos k2]
    exact ⟨rfl, fun e => absurd e (by decide)⟩
  · have hn : ¬ I (shK b) 1 = -1 := fun e => k1 (h9.mp e)
    by_cases e : I (shK b) 1 = ln
    · subst e
      unfold raF
      rw [if_neg k1, if_pos k2.symm]
      rcases hp with ⟨k3, k4⟩ | ⟨k3, k4, j, hj, rfl⟩
      · rw [k3, k4]
        exact ⟨rfl, fun e => absurd e (by decide)⟩
      · rw [k3, k4]
        refine ⟨rfl, fun _ => ⟨j, hj, rfl, ?_⟩⟩
        rcases h with ⟨y1, y2⟩ | ⟨ln, n, y1, y2, y3, y4, y5, y6, y7⟩
        · exact absurd y2 k1
        · exact y7 j hj
    · unfold fof raF
      rw [if_neg hn, if_neg e, if_neg k1, if_neg (by rw [← k2]; exact e)]
      exact ⟨rfl, fun e => absurd e (by decide)⟩
set_option maxRecDepth 20000 in
theorem o_at (x i ln : Int32) : opL i_at i_rat [.ref 0, .int x, .int i, .int ln] [.ref 31, .int x, .int i, .int ln] := by
  intro a I J Q h
  have ha := h.1
  refine zz_sheetAt (fun r1 => ?_) (fun b hb hx r1 => ?_)
  · exact And.intro ha (zz_rat (fun _ => ⟨⟨_, rfl, rfl⟩, fl_1 h⟩) (fun b hb hx => by rw [hx, show wi (nI b) 0 3 = true from (by rcases (show b = 0 ∨ b = 1 ∨ b = 2 ∨ b = 3 by omega) with rfl | rfl | rfl | rfl <;> decide)] at r1; cases r1))
  · have s0 : 23 ≤ shK b ∧ shK b + 1 < 31 := by unfold shK; omega
    have hs : rSb (up2 I 0 15 0) b := rSb_i (relE_S h b hb) (up2_ne (by omega)) (up2_ne (by omega)) (up2_ne (by decide)) (up2_ne (by decide)) (up2_ne (by decide))
    obtain ⟨p1, p2⟩ := rSb_at (i := i) (ln := ln) hs
    have hb' : ∀ c, x = nI c → c < 4 → c = b := fun c hc hc4 => by
      rw [hx] at hc
      exact ((nI_eq (by omega) (by omega)).mp hc).symm
    have e38 : ∀ u, up2 (up2 I 0 15 0) 0 15 u 38 = up2 I 0 15 0 38 := fun u => up2_ne (by decide)
    have e39 : ∀ u, up2 (up2 I 0 15 0) 0 15 u 39 = up2 I 0 15 0 39 := fun u => up2_ne (by decide)
    have e40 : ∀ u, up2 (up2 I 0 15 0) 0 15 u 40 = up2 I 0 15 0 40 := fun u => up2_ne (by decide)
    have es : ∀ u, up2 (up2 I 0 15 0) 0 15 u (shK b + 1) = up2 I 0 15 0 (shK b + 1) := fun u => up2_ne (by omega)
    have g0 : wi ln 0 2 = false → (60 ≤ a.1 ∧ i_rat.2.2.2.2.2 [.ref 31, .int x, .int i, .int ln] a (up2 I 0 15 0) J Q (fun w a2 I2 J2 Q2 => (∃ x, some vLost = some (.long x) ∧ w = some (.long x)) ∧ relE a2 I2 J2 Q2)) := fun r => And.intro ha (zz_rat (fun _ => ⟨⟨_, rfl, rfl⟩, fl_1 h⟩) (fun b hb hx r' => by rw [r] at r'; cases r'))
    have g1 : wi ln 0 2 = true → ∀ e, fof (up2 I 0 15 0) (shK b) ln i 1 = e → ¬ e = 0 → (60 ≤ a.1 ∧ i_rat.2.2.2.2.2 [.ref 31, .int x, .int i, .int ln] a (up2 (up2 I 0 15 0) 0 15 e) J Q (fun w a2 I2 J2 Q2 => (∃ x, some vLost = some (.long x) ∧ w = some (.long x)) ∧ relE a2 I2 J2 Q2)) := fun r e he hne => by
      refine And.intro ha (zz_rat (fun r' => ?_) (fun c hc hxc _ => ?_))
      · rcases r' with r' | r'
        · rw [r1] at r'; cases r'
        · rw [r] at r'; cases r'
      obtain rfl := hb' c hxc hc
      rw [e38, e39, ← p1, he]
      exact ⟨fun e' he' _ => by (subst he'; exact ⟨⟨_, rfl, rfl⟩, fl_2 e h⟩), fun k => absurd k hne⟩
    have g2 : wi ln 0 2 = true → fof (up2 I 0 15 0) (shK b) ln i 1 = 0 → ∃ j, j < 64 ∧ i = nI j ∧ (60 ≤ a.1 ∧ i_rat.2.2.2.2.2 [.ref 31, .int x, .int i, .int ln] a (up2 (up2 I 0 15 0) 0 15 (fof (up2 I 0 15 0) (shK b) ln i 1)) J Q (fun w a2 I2 J2 Q2 => (∃ x, some (Value.long (up2 (up2 I 0 15 0) 0 15 (fof (up2 I 0 15 0) (shK b) ln i 1) (shK b + 1) i.toNatClampNeg).toInt64) = some (.long x) ∧ w = some (.long x)) ∧ relE a2 I2 J2 Q2)) := fun r he => by
      obtain ⟨j, hj, rfl, hv⟩ := p2 (by rw [← p1]; exact he)
      refine ⟨j, hj, rfl, And.intro ha (zz_rat (fun r' => ?_) (fun c hc hxc _ => ?_))⟩
      · rcases r' with r' | r'
        · rw [r1] at r'; cases r'
        · rw [r] at r'; cases r'
      obtain rfl := hb' c hxc hc
      rw [e38, e39, e40, es, show (nI j).toNatClampNeg = j from nI_clamp (by omega), hv, ← p1, he]
      refine ⟨fun e' he' k => absurd he'.symm k, fun _ => ⟨j, hj, rfl, ⟨_, rfl, rfl⟩, ?_⟩⟩
      exact fl_rel h (fun k a1 a2 => by rw [up2_ne a2, up2_ne a1, up2_ne a1]) (fun j hj => by rw [up2_ne (by decide), up2_nej hj, up2_nej hj]) (fun j hj => by rw [up2_nej hj, up2_ne (by decide), up2_ne (by decide)]) (by rw [up2_ne (by decide), up2_at, up2_at])
    rcases (show b = 0 ∨ b = 1 ∨ b = 2 ∨ b = 3 by omega) with rfl | rfl | rfl | rfl
    · refine Exists.intro (ln, 0, 2) (And.intro rfl (And.intro trivial (bI_cases (wi ln 0 2) (fun r => ?_) (fun r => g0 r))))
      refine fo_0 ?_
      have ee : up2 (up2 I 0 15 0) 0 15 (fof (up2 I 0 15 0) 23 ln i 1) 0 15 = fof (up2 I 0 15 0) 23 ln i 1 := up2_at
      refine And.intro (fun (c : up2 (up2 I 0 15 0) 0 15 (fof (up2 I 0 15 0) 23 ln i 1) 0 15 = 0) => ?_) (fun (c : ¬ up2 (up2 I 0 15 0) 0 15 (fof (up2 I 0 15 0) 23 ln i 1) 0 15 = 0) => ?_)
      · rw [ee] at c
        obtain ⟨j, hj, rfl, g3⟩ := g2 r c
        exact And.intro (show vp_in (nI j) 64 from vp_in_nI hj (by decide)) g3
      · rw [ee] at c
        exact g1 r _ rfl c
    · refine Exists.intro (ln, 0, 2) (And.intro rfl (And.intro trivial (bI_cases (wi ln 0 2) (fun r => ?_) (fun r => g0 r))))
      refine fo_1 ?_
      have ee : up2 (up2 I 0 15 0) 0 15 (fof (up2 I 0 15 0) 25 ln i 1) 0 15 = fof (up2 I 0 15 0) 25 ln i 1 := up2_at
      refine And.intro (fun (c : up2 (up2 I 0 15 0) 0 15 (fof (up2 I 0 15 0) 25 ln i 1) 0 15 = 0) => ?_) (fun (c : ¬ up2 (up2 I 0 15 0) 0 15 (fof (up2 I 0 15 0) 25 ln i 1) 0 15 = 0) => ?_)
      · rw [ee] at c
        obtain ⟨j, hj, rfl, g3⟩ := g2 r c
        exact And.intro (show vp_in (nI j) 64 from vp_in_nI hj (by decide)) g3
      · rw [ee] at c
        exact g1 r _ rfl c
    · refine Exists.intro (ln, 0, 2) (And.intro rfl (And.intro trivial (bI_cases (wi ln 0 2) (fun r => ?_) (fun r => g0 r))))
      refine fo_2 ?_
      have ee : up2 (up2 I 0 15 0) 0 15 (fof (up2 I 0 15 0) 27 ln i 1) 0 15 = fof (up2 I 0 15 0) 27 ln i 1 := up2_at
      refine And.intro (fun (c : up2 (up2 I 0 15 0) 0 15 (fof (up2 I 0 15 0) 27 ln i 1) 0 15 = 0) => ?_) (fun (c : ¬ up2 (up2 I 0 15 0) 0 15 (fof (up2 I 0 15 0) 27 ln i 1) 0 15 = 0) => ?_)
      · rw [ee] at c
        obtain ⟨j, hj, rfl, g3⟩ := g2 r c
        exact And.intro (show vp_in (nI j) 64 from vp_in_nI hj (by decide)) g3
      · rw [ee] at c
        exact g1 r _ rfl c
    · refine Exists.intro (ln, 0, 2) (And.intro rfl (And.intro trivial (bI_cases (wi ln 0 2) (fun r => ?_) (fun r => g0 r))))
      refine fo_3 ?_
      have ee : up2 (up2 I 0 15 0) 0 15 (fof (up2 I 0 15 0) 29 ln i 1) 0 15 = fof (up2 I 0 15 0) 29 ln i 1 := up2_at
      refine And.intro (fun (c : up2 (up2 I 0 15 0) 0 15 (fof (up2 I 0 15 0) 29 ln i 1) 0 15 = 0) => ?_) (fun (c : ¬ up2 (up2 I 0 15 0) 0 15 (fof (up2 I 0 15 0) 29 ln i 1) 0 15 = 0) => ?_)
      · rw [ee] at c
        obtain ⟨j, hj, rfl, g3⟩ := g2 r c
        exact And.intro (show vp_in (nI j) 64 from vp_in_nI hj (by decide)) g3
      · rw [ee] at c
        exact g1 r _ rfl c
