/-! shape -/
theorem cfN_cong {f g : Nat → Nat} (h : ∀ y, y < 8 → f y = g y) : ∀ j, cfN f j = cfN g j
  | 0 => rfl
  | j + 1 => by
    show cfN f j * 2 ^ 8 ||| f (7 - j) = cfN g j * 2 ^ 8 ||| g (7 - j)
    rw [cfN_cong h j, h (7 - j) (by omega)]
/-- what hinders a shape, on both sides -/
theorem rSb_shape {I : hI} {b : Nat} {i ln : Int32} (h : rSb I b) : fof I (shK b) ln i 8 = shF (I 38 b) (I 39 b) ln i ∧ (shF (I 38 b) (I 39 b) ln i = 0 → ∃ j, j ≤ 56 ∧ i = nI j ∧ cfN (fun y => b8 (I (shK b + 1) (j + y))) 8 = cfN (fun y => b8 (I 40 (64 * b + j + y))) 8) := by
  have h9 := rSb_lost h
  unfold fof shF
  rcases h with ⟨h1, h2⟩ | ⟨l', n, q1, q2, q3, q4, q5, q6, q7⟩
  · rw [if_pos h1, if_pos h2]
    exact ⟨rfl, fun e => absurd e (by decide)⟩
  · have hl : ¬ I 38 b = -9 := by
      rw [q4]
      have : ∀ ln, ln ≤ 2 → ¬ nI ln = -9 := by decide
      exact this l' q1
    rw [if_neg (fun e => hl (h9.mp e)), if_neg hl, q3, q4, q5, q6]
    refine ⟨rfl, fun e => ?_⟩
    by_cases c : nI l' = ln
    · rw [if_pos c] at e
      by_cases c1 : i < 0
      · rw [if_pos c1] at e; exact absurd e (by decide)
      · rw [if_neg c1] at e
        by_cases c2 : i ≤ nI n - 8
        · obtain ⟨j, hj, rfl⟩ := nI_of c1
          have hj8 : j + 8 ≤ n := by
            rw [show (8 : Int32) = zI 8 from rfl, zI_nat, zI_nat, zI_sub, zI_le (by omega) (by omega) (by omega) (by omega)] at c2
            omega
          refine ⟨j, by omega, rfl, cfN_cong (fun y hy => ?_) 8⟩
          show b8 (I (shK b + 1) (j + y)) = b8 (I 40 (64 * b + j + y))
          rw [q7 (j + y) (by omega), Nat.add_assoc]
        · rw [if_neg c2] at e; exact absurd e (by decide)
    · rw [if_neg c] at e; exact absurd e (by decide)
abbrev i_shape : ev := (4, 9, true, 1, 3, inl true 1 3 [i_sheetAt, e_within, i_faultOf, i_faulted, e_cells, e_addS9] false false kX9_shape 8)
theorem c_shape {l : Launch} : CX l cdX9_shape i_shape := cm_inl RX9 edX9_shape [i_sheetAt, e_within, i_faultOf, i_faulted, e_cells, e_addS9] false false kX9_shape cwX9_shape okX9_shape ⟨⟨_, rfl, c_sheetAt⟩, ⟨_, rfl, c_within⟩, ⟨_, rfl, c_faultOf⟩, ⟨_, rfl, c_faulted⟩, ⟨_, rfl, c_cells⟩, ⟨_, rfl, c_addS9⟩, trivial⟩ (by decide) rfl (fun h => Bool.noConfusion h)
set_option maxRecDepth 20000 in
set_option maxHeartbeats 2000000 in
theorem o_shape (x ln i : Int32) : opI i_shape e_rshape [.ref 0, .int x, .int ln, .int i] [.ref 31, .int x, .int ln, .int i] := by
  intro a I J Q h
  obtain ⟨ha, hT, n, m, wb, mg, wl, ks, C, W, H, kp, S, X, Y, T, Kd, B, hr⟩ := id h
  have a1 := hr.1.1
  have a2 := hr.1.2.1
  have a3 := hr.1.2.2.1
  have hS := hr.2.2.2.2.2.1
  have hL : ∀ I1 : hI, (∀ k, 31 ≤ k → k < 60 → I1 k = I k) → I1 31 2 = nI n ∧ n ≤ 12 ∧ ∀ b, b < 4 → I1 38 b ≠ -9 → ∃ n, n ≤ 64 ∧ I1 39 b = nI n := fun I1 f => by
    refine ⟨by rw [f 31 (by decide) (by decide)]; exact a2, a3, fun b hb hne => ?_⟩
    rw [f 38 (by decide) (by decide)] at hne
    rw [f 39 (by decide) (by decide)]
    rcases hS b hb with ⟨-, h2⟩ | ⟨l', n, q1, q2, q3, q4, q5, q6, q7⟩
    · exact absurd h2 hne
    · exact ⟨n, q2, q6⟩
  have f0 : ∀ k, 31 ≤ k → k < 60 → up2 I 0 15 0 k = I k := fun k h1 h2 => up2_ne (by omega)
  have hrel1 := relE_a (a.2.1 + 1) (a.2.2.1 + 3) (fl_1 h)
  refine zz_sheetAt (fun r1 => ?_) (fun b hb hx r1 => ?_)
  · refine And.intro ha (Exists.intro ((x, ln, i), n) (And.intro rfl (And.intro (hL _ f0) ?_)))
    rintro w I2 J2 Q2 ⟨rfl, rfl, hP⟩
    obtain ⟨e1, e2⟩ := hP.1 r1
    rw [e1, e2]
    exact ⟨⟨_, rfl, rfl⟩, hrel1⟩
  · have s0 : 23 ≤ shK b ∧ shK b + 1 < 31 := by unfold shK; omega
    have hs : rSb (up2 I 0 15 0) b := rSb_i (hS b hb) (up2_ne (by omega)) (up2_ne (by omega)) (up2_ne (by decide)) (up2_ne (by decide)) (up2_ne (by decide))
    obtain ⟨p1, p2⟩ := rSb_shape (i := i) (ln := ln) hs
    have exb : x.toNatClampNeg = b := by rw [hx]; exact nI_clamp (by omega)
    have g0 : wi ln 0 2 = false → (60 ≤ a.1 ∧ e_rshape.2.2.2.2.2 [.ref 31, .int x, .int ln, .int i] (a.1, a.2.1 + 1, a.2.2.1 + 3, a.2.2.2) (up2 I 0 15 0) J Q (fun w a2 I2 J2 Q2 => (∃ x, some (Value.int (-2)) = some (.int x) ∧ w = some (.int x)) ∧ relE a2 I2 J2 Q2)) := fun r2 => by
      refine And.intro ha (Exists.intro ((x, ln, i), n) (And.intro rfl (And.intro (hL _ f0) ?_)))
      rintro w I2 J2 Q2 ⟨rfl, rfl, hP⟩
      obtain ⟨e1, e2⟩ := (hP.2 r1).1 r2
      rw [e1, e2]
      exact ⟨⟨_, rfl, rfl⟩, hrel1⟩
    have gF : wi ln 0 2 = true → ∀ e, fof (up2 I 0 15 0) (shK b) ln i 8 = e → ¬ e = 0 → (60 ≤ a.1 ∧ e_rshape.2.2.2.2.2 [.ref 31, .int x, .int ln, .int i] (a.1, a.2.1 + 1, a.2.2.1 + 3, a.2.2.2) (up2 (up2 I 0 15 0) 0 15 e) J Q (fun w a2 I2 J2 Q2 => (∃ x, some (Value.int (-10 - e)) = some (.int x) ∧ w = some (.int x)) ∧ relE a2 I2 J2 Q2)) := fun r2 e he hne => by
      have f1 : ∀ k, 31 ≤ k → k < 60 → up2 (up2 I 0 15 0) 0 15 e k = I k := fun k h1 h2 => by rw [up2_ne (by omega), up2_ne (by omega)]
      refine And.intro ha (Exists.intro ((x, ln, i), n) (And.intro rfl (And.intro (hL _ f1) ?_)))
      rintro w I2 J2 Q2 ⟨rfl, rfl, hP⟩
      have hh : shF (up2 (up2 I 0 15 0) 0 15 e 38 x.toNatClampNeg) (up2 (up2 I 0 15 0) 0 15 e 39 x.toNatClampNeg) ln i = e := by
        rw [exb, up2_ne (by decide), up2_ne (show (39 : Nat) ≠ 0 by decide), ← p1]; exact he
      obtain ⟨e1, e2⟩ := ((hP.2 r1).2 r2).1 e hh hne
      rw [e1, e2]
      exact ⟨⟨_, rfl, rfl⟩, relE_a (a.2.1 + 1) (a.2.2.1 + 3) (fl_2 e h)⟩
    have gO : wi ln 0 2 = true → fof (up2 I 0 15 0) (shK b) ln i 8 = 0 → ∃ j c, j ≤ 56 ∧ i = nI j ∧ c < 2 ^ 64 ∧ cfN (fun y => b8 (up2 I 0 15 0 (shK b + 1) (j + y))) 8 = c ∧ (c = 0 → (60 ≤ a.1 ∧ e_rshape.2.2.2.2.2 [.ref 31, .int x, .int ln, .int i] (a.1, a.2.1 + 1, a.2.2.1 + 3, a.2.2.2) (up2 I 0 15 0) J Q (fun w a2 I2 J2 Q2 => (∃ x, some (Value.int (-2)) = some (.int x) ∧ w = some (.int x)) ∧ relE a2 I2 J2 Q2))) ∧ (c ≠ 0 → ∀ (v : Option Value) (a' : hA) (I1 : hI) (J1 : hJ) (Q1 : hQ), ((n = 12 → v = some (.int (-4)) ∧ a' = (a.1, a.2.1 + 1, a.2.2.1 + 3, a.2.2.2) ∧ I1 = up2 I 0 15 0 ∧ J1 = J ∧ Q1 = Q) ∧ (n ≠ 12 → v = some (.int (nI n)) ∧ asP a (up2 I 0 15 0) J Q c n a' I1 J1 Q1)) → v.isSome = true ∧ ∀ u, v = some (.int u) → (60 ≤ a'.1 ∧ e_rshape.2.2.2.2.2 [.ref 31, .int x, .int ln, .int i] (a'.1, a.2.1 + 1, a.2.2.1 + 3, a'.2.2.2) I1 J1 Q1 (fun w a2 I2 J2 Q2 => (∃ x, some (Value.int u) = some (.int x) ∧ w = some (.int x)) ∧ relE a2 I2 J2 Q2))) := fun r2 he => by
      obtain ⟨j, hj, rfl, hcf⟩ := p2 (by rw [← p1]; exact he)
      have ecj : (nI j).toNatClampNeg = j := nI_clamp (by omega)
      have hclt : cfN (fun y => b8 (up2 I 0 15 0 (shK b + 1) (j + y))) 8 < 2 ^ 64 := cfN_lt (fun y => b8_lt _) 8
      refine ⟨j, _, hj, rfl, hclt, rfl, fun hc0 => ?_, fun hc0 v a' I1 J1 Q1 hz => ?_⟩
      · rw [hcf] at hc0
        refine And.intro ha (Exists.intro ((x, ln, nI j), n) (And.intro rfl (And.intro (hL _ f0) ?_)))
        rintro w I2 J2 Q2 ⟨rfl, rfl, hP⟩
        have hso := ((hP.2 r1).2 r2).2
        have hso : shF (up2 I 0 15 0 38 x.toNatClampNeg) (up2 I 0 15 0 39 x.toNatClampNeg) ln (nI j) = 0 → rsoP (up2 I 0 15 0) I2 n x.toNatClampNeg (nI j).toNatClampNeg w := hso
        rw [exb, ecj, ← p1] at hso
        obtain ⟨e1, e2⟩ := (hso he).1 hc0
        rw [e1]
        have e3 : fr (up2 I 0 15 0) I2 [31, 35] := e2.1
        refine ⟨⟨_, rfl, rfl⟩, relE_a (a.2.1 + 1) (a.2.2.1 + 3) (relE_fr h ⟨fun k q1 q2 q3 => ?_, fun j _ q2 => ?_, fun j hj => ?_⟩ (frJ_refl _ _) ⟨?_, ?_⟩)⟩
        · rw [e3 k (by simp at q3 ⊢; omega), up2_ne q1]
        · rw [e3 0 (by decide), up2_nej q2]
        · rw [e2.2 j, up2_nej (by omega), up2_ne (by decide)]
        · rw [e3 0 (by decide), up2_nej (by decide), e2.2 1, up2_nej (by decide), up2_ne (by decide)]; exact hT.1
        · rw [e3 0 (by decide), up2_at, e2.2 0, up2_at]
      · by_cases hn12 : n = 12
        · obtain ⟨rfl, rfl, rfl, rfl, rfl⟩ := hz.1 hn12
          refine ⟨rfl, fun u hu => ?_⟩
          cases hu
          rw [hcf] at hc0
          refine And.intro ha (Exists.intro ((x, ln, nI j), n) (And.intro rfl (And.intro (hL _ f0) ?_)))
          rintro w I2 J2 Q2 ⟨rfl, rfl, hP⟩
          have hso := ((hP.2 r1).2 r2).2
          have hso : shF (up2 I 0 15 0 38 x.toNatClampNeg) (up2 I 0 15 0 39 x.toNatClampNeg) ln (nI j) = 0 → rsoP (up2 I 0 15 0) I2 n x.toNatClampNeg (nI j).toNatClampNeg w := hso
          rw [exb, ecj, ← p1] at hso
          obtain ⟨e1, e2⟩ := ((hso he).2 hc0).1 hn12
          rw [e1]
          have e3 : fr (up2 I 0 15 0) I2 [31, 35] := e2.1
          refine ⟨⟨_, rfl, rfl⟩, relE_a (a.2.1 + 1) (a.2.2.1 + 3) (relE_fr h ⟨fun k q1 q2 q3 => ?_, fun j _ q2 => ?_, fun j hj => ?_⟩ (frJ_refl _ _) ⟨?_, ?_⟩)⟩
          · rw [e3 k (by simp at q3 ⊢; omega), up2_ne q1]
          · rw [e3 0 (by decide), up2_nej q2]
          · rw [e2.2 j, up2_nej (by omega), up2_ne (by decide)]
          · rw [e3 0 (by decide), up2_nej (by decide), e2.2 1, up2_nej (by decide), up2_ne (by decide)]; exact hT.1
          · rw [e3 0 (by decide), up2_at, e2.2 0, up2_at]
        · obtain ⟨rfl, has⟩ := hz.2 hn12
          refine ⟨rfl, fun u hu => ?_⟩
          cases hu
          obtain ⟨rfl, s1, s2, s3, s4, s5, s6, s7, s8, s9, s10⟩ := id has
          have f1 : ∀ k, 31 ≤ k → k < 60 → I1 k = I k := fun k h1 h2 => by rw [s1 k (by omega) (by omega), up2_ne (by omega)]
          have f1' : ∀ k, 31 ≤ k → k < 60 → I1 k = up2 I 0 15 0 k := fun k h1 h2 => s1 k (by omega) (by omega)
          refine And.intro (show 60 ≤ a.1 + 1 by omega) (Exists.intro ((x, ln, nI j), n) (And.intro rfl (And.intro (hL _ f1) ?_)))
          rintro w I2 J2 Q2 ⟨rfl, rfl, hP⟩
          have hso := ((hP.2 r1).2 r2).2
          have hso : shF (I1 38 x.toNatClampNeg) (I1 39 x.toNatClampNeg) ln (nI j) = 0 → rsoP I1 I2 n x.toNatClampNeg (nI j).toNatClampNeg w := hso
          rw [exb, ecj, f1' 38 (by decide) (by decide), f1' 39 (by decide) (by decide), ← p1] at hso
          have hso := hso he
          unfold rsoP at hso
          rw [f1' 40 (by decide) (by decide), ← hcf] at hso
          obtain ⟨e1, I3, e2, e4⟩ := (hso.2 hc0).2 hn12
          rw [e1]
          obtain ⟨d1, d2, d3, d4, d5, d6, d7, d8, d9⟩ := e4
          have d1 : fr I3 I2 [31, 32, 33, 34, 36] := d1
          have e3 : fr I1 I3 [31, 35] := e2.1
          have hr0 : rel a (up2 I 0 15 0) J2 Q2 n m wb mg wl ks C W H kp S X Y T Kd B ∨ True := Or.inr trivial
          refine ⟨⟨_, rfl, rfl⟩, rel_add (I := up2 I 0 15 0) (J := J) (Q := Q) ha (rel_fr hr ⟨fun k q1 _ _ => up2_ne q1, fun j _ q2 => up2_nej q2, fun j _ => by rw [up2_ne (by decide)]⟩ (frJ_refl _ _)) (show n < 12 by omega) hclt hc0 has (fun k hk => by rw [d1 k (by simp at hk ⊢; omega), e3 k (by simp at hk ⊢; omega)]) (fun j j1 j2 => by rw [d2 j j2, e2.2 j, up2_nej j1]) d3 (fun i hi => by rw [d4 i (Or.inl hi), e3 32 (by decide)]) (fun i hi => by rw [d6 i hi, e3 33 (by decide)]) (fun i hi => by rw [d8 i hi, e3 34 (by decide)]) d5 d7 d9 ⟨?_, ?_⟩⟩
          · rw [d1 0 (by decide), e3 0 (by decide), s2 14 (by decide), up2_nej (by decide), d2 1 (by decide), e2.2 1, up2_nej (by decide), f1 31 (by decide) (by decide)]; exact hT.1
          · rw [d1 0 (by decide), e3 0 (by decide), s2 15 (by decide), up2_at, d2 0 (by decide), e2.2 0, up2_at]
    rcases (show b = 0 ∨ b = 1 ∨ b = 2 ∨ b = 3 by omega) with rfl | rfl | rfl | rfl
    · refine Exists.intro (ln, 0, 2) (And.intro rfl (And.intro trivial (bI_cases (wi ln 0 2) (fun r2 => ?_) (fun r2 => g0 r2))))
      refine fo_0 ?_
      refine And.intro (fun (c : fof (up2 I 0 15 0) 23 ln i 8 = 0) => ?_) (fun (c : ¬ fof (up2 I 0 15 0) 23 ln i 8 = 0) => gF r2 _ rfl c)
      obtain ⟨j, cc, hj, rfl, hc, hce, g1, g2⟩ := gO r2 c
      refine Exists.intro (0, j) (And.intro rfl (And.intro ⟨(show 0 < 4 by decide), hj⟩ ?_))
      have hce' : some (Value.long (lN (cfN (fun y => b8 (up2 I 0 15 0 (shK 0 + 1) (j + y))) 8))) = some (Value.long (lN cc)) := by rw [hce]
      refine And.intro (fun (c2 : ¬ lg_cmp (lN (cfN (fun y => b8 (up2 I 0 15 0 (shK 0 + 1) (j + y))) 8)) 0 = 0) => ?_) (fun (c2 : lg_cmp (lN (cfN (fun y => b8 (up2 I 0 15 0 (shK 0 + 1) (j + y))) 8)) 0 = 0) => ?_)
      · rw [hce, lgN hc] at c2
        refine mko rfl rfl rfl (And.intro (rok_of ⟨(show 0 < a.1 by omega), trivial, trivial, trivial, (show 23 < a.1 by omega), trivial, trivial, trivial⟩ (fun v hv => by cases hv)) ?_)
        refine Exists.intro (cc, n) (And.intro (show [Value.ref 0, .long (lN (cfN (fun y => b8 (up2 I 0 15 0 (shK 0 + 1) (j + y))) 8))] = [.ref 0, .long (lN cc)] by rw [hce]) (And.intro ⟨hc, by rw [up2_nej (by decide)]; exact a1, a3⟩ ?_))
        rintro v a' I1 J1 Q1 ⟨z1, z2⟩
        have z1 : n = 12 → v = some (.int (-4)) ∧ a' = (a.1, a.2.1 + 1, a.2.2.1 + 3, a.2.2.2) ∧ I1 = up2 I 0 15 0 ∧ J1 = J ∧ Q1 = Q := z1
        have z2 : n ≠ 12 → v = some (.int (nI n)) ∧ asP a (up2 I 0 15 0) J Q cc n a' I1 J1 Q1 := z2
        have g3 := (g2 c2 v a' I1 J1 Q1 ⟨z1, z2⟩).2
        by_cases hn12 : n = 12
        · obtain ⟨rfl, -⟩ := z1 hn12
          exact g3 _ rfl
        · obtain ⟨rfl, -⟩ := z2 hn12
          exact g3 _ rfl
      · rw [hce, lgN hc] at c2
        exact g1 c2
    · refine Exists.intro (ln, 0, 2) (And.intro rfl (And.intro trivial (bI_cases (wi ln 0 2) (fun r2 => ?_) (fun r2 => g0 r2))))
      refine fo_1 ?_
      refine And.intro (fun (c : fof (up2 I 0 15 0) 25 ln i 8 = 0) => ?_) (fun (c : ¬ fof (up2 I 0 15 0) 25 ln i 8 = 0) => gF r2 _ rfl c)
      obtain ⟨j, cc, hj, rfl, hc, hce, g1, g2⟩ := gO r2 c
      refine Exists.intro (1, j) (And.intro rfl (And.intro ⟨(show 1 < 4 by decide), hj⟩ ?_))
      have hce' : some (Value.long (lN (cfN (fun y => b8 (up2 I 0 15 0 (shK 1 + 1) (j + y))) 8))) = some (Value.long (lN cc)) := by rw [hce]
      refine And.intro (fun (c2 : ¬ lg_cmp (lN (cfN (fun y => b8 (up2 I 0 15 0 (shK 1 + 1) (j + y))) 8)) 0 = 0) => ?_) (fun (c2 : lg_cmp (lN (cfN (fun y => b8 (up2 I 0 15 0 (shK 1 + 1) (j + y))) 8)) 0 = 0) => ?_)
      · rw [hce, lgN hc] at c2
        refine mko rfl rfl rfl (And.intro (rok_of ⟨(show 0 < a.1 by omega), trivial, trivial, trivial, (show 25 < a.1 by omega), trivial, trivial, trivial⟩ (fun v hv => by cases hv)) ?_)
        refine Exists.intro (cc, n) (And.intro (show [Value.ref 0, .long (lN (cfN (fun y => b8 (up2 I 0 15 0 (shK 1 + 1) (j + y))) 8))] = [.ref 0, .long (lN cc)] by rw [hce]) (And.intro ⟨hc, by rw [up2_nej (by decide)]; exact a1, a3⟩ ?_))
        rintro v a' I1 J1 Q1 ⟨z1, z2⟩
        have z1 : n = 12 → v = some (.int (-4)) ∧ a' = (a.1, a.2.1 + 1, a.2.2.1 + 3, a.2.2.2) ∧ I1 = up2 I 0 15 0 ∧ J1 = J ∧ Q1 = Q := z1
        have z2 : n ≠ 12 → v = some (.int (nI n)) ∧ asP a (up2 I 0 15 0) J Q cc n a' I1 J1 Q1 := z2
        have g3 := (g2 c2 v a' I1 J1 Q1 ⟨z1, z2⟩).2
        by_cases hn12 : n = 12
        · obtain ⟨rfl, -⟩ := z1 hn12
          exact g3 _ rfl
        · obtain ⟨rfl, -⟩ := z2 hn12
          exact g3 _ rfl
      · rw [hce, lgN hc] at c2
        exact g1 c2
    · refine Exists.intro (ln, 0, 2) (And.intro rfl (And.intro trivial (bI_cases (wi ln 0 2) (fun r2 => ?_) (fun r2 => g0 r2))))
      refine fo_2 ?_
      refine And.intro (fun (c : fof (up2 I 0 15 0) 27 ln i 8 = 0) => ?_) (fun (c : ¬ fof (up2 I 0 15 0) 27 ln i 8 = 0) => gF r2 _ rfl c)
      obtain ⟨j, cc, hj, rfl, hc, hce, g1, g2⟩ := gO r2 c
      refine Exists.intro (2, j) (And.intro rfl (And.intro ⟨(show 2 < 4 by decide), hj⟩ ?_))
      have hce' : some (Value.long (lN (cfN (fun y => b8 (up2 I 0 15 0 (shK 2 + 1) (j + y))) 8))) = some (Value.long (lN cc)) := by rw [hce]
      refine And.intro (fun (c2 : ¬ lg_cmp (lN (cfN (fun y => b8 (up2 I 0 15 0 (shK 2 + 1) (j + y))) 8)) 0 = 0) => ?_) (fun (c2 : lg_cmp (lN (cfN (fun y => b8 (up2 I 0 15 0 (shK 2 + 1) (j + y))) 8)) 0 = 0) => ?_)
      · rw [hce, lgN hc] at c2
        refine mko rfl rfl rfl (And.intro (rok_of ⟨(show 0 < a.1 by omega), trivial, trivial, trivial, (show 27 < a.1 by omega), trivial, trivial, trivial⟩ (fun v hv => by cases hv)) ?_)
        refine Exists.intro (cc, n) (And.intro (show [Value.ref 0, .long (lN (cfN (fun y => b8 (up2 I 0 15 0 (shK 2 + 1) (j + y))) 8))] = [.ref 0, .long (lN cc)] by rw [hce]) (And.intro ⟨hc, by rw [up2_nej (by decide)]; exact a1, a3⟩ ?_))
        rintro v a' I1 J1 Q1 ⟨z1, z2⟩
        have z1 : n = 12 → v = some (.int (-4)) ∧ a' = (a.1, a.2.1 + 1, a.2.2.1 + 3, a.2.2.2) ∧ I1 = up2 I 0 15 0 ∧ J1 = J ∧ Q1 = Q := z1
        have z2 : n ≠ 12 → v = some (.int (nI n)) ∧ asP a (up2 I 0 15 0) J Q cc n a' I1 J1 Q1 := z2
        have g3 := (g2 c2 v a' I1 J1 Q1 ⟨z1, z2⟩).2
        by_cases hn12 : n = 12
        · obtain ⟨rfl, -⟩ := z1 hn12
          exact g3 _ rfl
        · obtain ⟨rfl, -⟩ := z2 hn12
          exact g3 _ rfl
      · rw [hce, lgN hc] at c2
        exact g1 c2
    · refine Exists.intro (ln, 0, 2) (And.intro rfl (And.intro trivial (bI_cases (wi ln 0 2) (fun r2 => ?_) (fun r2 => g0 r2))))
      refine fo_3 ?_
      refine And.intro (fun (c : fof (up2 I 0 15 0) 29 ln i 8 = 0) => ?_) (fun (c : ¬ fof (up2 I 0 15 0) 29 ln i 8 = 0) => gF r2 _ rfl c)
      obtain ⟨j, cc, hj, rfl, hc, hce, g1, g2⟩ := gO r2 c
      refine Exists.intro (3, j) (And.intro rfl (And.intro ⟨(show 3 < 4 by decide), hj⟩ ?_))
      have hce' : some (Value.long (lN (cfN (fun y => b8 (up2 I 0 15 0 (shK 3 + 1) (j + y))) 8))) = some (Value.long (lN cc)) := by rw [hce]
      refine And.intro (fun (c2 : ¬ lg_cmp (lN (cfN (fun y => b8 (up2 I 0 15 0 (shK 3 + 1) (j + y))) 8)) 0 = 0) => ?_) (fun (c2 : lg_cmp (lN (cfN (fun y => b8 (up2 I 0 15 0 (shK 3 + 1) (j + y))) 8)) 0 = 0) => ?_)
      · rw [hce, lgN hc] at c2
        refine mko rfl rfl rfl (And.intro (rok_of ⟨(show 0 < a.1 by omega), trivial, trivial, trivial, (show 29 < a.1 by omega), trivial, trivial, trivial⟩ (fun v hv => by cases hv)) ?_)
        refine Exists.intro (cc, n) (And.intro (show [Value.ref 0, .long (lN (cfN (fun y => b8 (up2 I 0 15 0 (shK 3 + 1) (j + y))) 8))] = [.ref 0, .long (lN cc)] by rw [hce]) (And.intro ⟨hc, by rw [up2_nej (by decide)]; exact a1, a3⟩ ?_))
        rintro v a' I1 J1 Q1 ⟨z1, z2⟩
        have z1 : n = 12 → v = some (.int (-4)) ∧ a' = (a.1, a.2.1 + 1, a.2.2.1 + 3, a.2.2.2) ∧ I1 = up2 I 0 15 0 ∧ J1 = J ∧ Q1 = Q := z1
        have z2 : n ≠ 12 → v = some (.int (nI n)) ∧ asP a (up2 I 0 15 0) J Q cc n a' I1 J1 Q1 := z2
        have g3 := (g2 c2 v a' I1 J1 Q1 ⟨z1, z2⟩).2
        by_cases hn12 : n = 12
        · obtain ⟨rfl, -⟩ := z1 hn12
          exact g3 _ rfl
        · obtain ⟨rfl, -⟩ := z2 hn12
          exact g3 _ rfl
      · rw [hce, lgN hc] at c2
        exact g1 c2
