/-! ahead, free: the walks -/
set_option maxRecDepth 20000 in
theorem zz_rahead {x y : Int32} {m : Nat} {B : Nat → Nat} {a : hA} {I : hI} {J : hJ} {Q : hQ} {K : hR} (hl : lawR I B m) (h0 : (bw x (nI m) = false ∨ bw y (nI m) = false) → K (some (.int (-1))) a I J Q) (h1 : ∀ p q, p < m → q < m → x = nI p → y = nI q → ((p = q ∨ mustN B q p = true) → K (some (.int (-3))) a I J Q) ∧ (p ≠ q → mustN B q p = false → ((B q).testBit p = true → K (some (.int 0)) a I J Q) ∧ ((B q).testBit p = false → K (some (.int 1)) a (up2 (up2 I 49 q (nI (B q ^^^ 2 ^ p))) 31 25 (I 31 25 + 1)) J Q))) : i_rahead.2.2.2.2.2 [.ref 31, .int x, .int y] a I J Q K := by
  have hm := hl.2.1
  have hlt := lawR_lt hl
  refine Exists.intro x (And.intro rfl (And.intro trivial (bI_cases' (bw x (I 31 19)) (fun r1 => Exists.intro y (And.intro rfl (And.intro trivial (bI_cases (bw y (I 31 19)) (fun r2 => ?_) (fun r2 => h0 (Or.inr (by rw [hl.1] at r2; exact r2))))))) (fun r1 => h0 (Or.inl (by rw [hl.1] at r1; exact r1))))))
  rw [hl.1] at r1 r2
  obtain ⟨p, hp, rfl⟩ := bw_nat (by omega) r1
  obtain ⟨q, hq, rfl⟩ := bw_nat (by omega) r2
  obtain ⟨g1, g2⟩ := h1 p q hp hq rfl rfl
  have hb := mst_bit hlt (p := q) (q := p) (by omega) (by omega)
  have ecq : (nI q).toNatClampNeg = q := nI_clamp (by omega)
  have hin : vp_in (nI q) 10 := vp_in_nI (by omega) (by decide)
  have e49 : I 49 (nI q).toNatClampNeg = nI (B q) := by rw [ecq]; exact hl.2.2.1 q (by omega)
  have hb2 : (I 49 (nI q).toNatClampNeg >>> (nI p &&& 31)) &&& 1 = nI (if (B q).testBit p = true then 1 else 0) := by
    rw [e49]
    exact bit1 (by have := hlt q (by omega); omega) (by omega)
  refine And.intro (fun (c : nI p = nI q) => ?_) (fun (c : ¬ nI p = nI q) => ?_)
  · rw [nI_eq (by omega) (by omega)] at c
    exact g1 (Or.inl c)
  · rw [nI_eq (by omega) (by omega)] at c
    refine Exists.intro (p, m, B) (And.intro rfl (And.intro ⟨hl, hp⟩ ?_))
    refine And.intro (fun (c1 : ¬ (nI (mlr B (B p) 9) >>> (nI q &&& 31)) &&& 1 = 1) => ?_) (fun (c1 : (nI (mlr B (B p) 9) >>> (nI q &&& 31)) &&& 1 = 1) => ?_)
    · have hmu : mustN B q p = false := by
        cases hc : mustN B q p with
        | false => rfl
        | true => rw [hb, hc] at c1; exact absurd rfl c1
      obtain ⟨g3, g4⟩ := g2 c hmu
      refine And.intro hin (And.intro (fun (c2 : ¬ (I 49 (nI q).toNatClampNeg >>> (nI p &&& 31)) &&& 1 = 1) => ?_) (fun (c2 : (I 49 (nI q).toNatClampNeg >>> (nI p &&& 31)) &&& 1 = 1) => ?_))
      · have hbt : (B q).testBit p = false := by
          cases hc : (B q).testBit p with
          | false => rfl
          | true => rw [hb2, hc] at c2; exact absurd rfl c2
        have e1 := (lw_or p (by omega) (B q) (hlt q (by omega)) hbt).1
        have g5 : ∀ q' v w, q' = q → v = nI (B q ^^^ 2 ^ p) → w = I 31 25 + 1 → K (some (.int 1)) a (up2 (up2 I 49 q' v) 31 25 w) J Q := fun q' v w e1 e2 e3 => by rw [e1, e2, e3]; exact g4 hbt
        refine And.intro hin (And.intro hin ?_)
        exact g5 _ _ _ ecq (by rw [e49]; exact e1) (by rw [up2_ne (by decide)])
      · have hbt : (B q).testBit p = true := by
          cases hc : (B q).testBit p with
          | true => rfl
          | false => rw [hb2, hc] at c2; exact absurd c2 (by decide)
        exact g3 hbt
    · have hmu : mustN B q p = true := by
        cases hc : mustN B q p with
        | true => rfl
        | false => rw [hb, hc] at c1; exact absurd c1 (by decide)
      exact g1 (Or.inr hmu)
set_option maxRecDepth 20000 in
theorem zz_rfree {x y : Int32} {m : Nat} {B : Nat → Nat} {a : hA} {I : hI} {J : hJ} {Q : hQ} {K : hR} (hl : lawR I B m) (h0 : (bw x (nI m) = false ∨ bw y (nI m) = false) → K (some (.int (-1))) a I J Q) (h1 : ∀ p q, p < m → q < m → x = nI p → y = nI q → ((B q).testBit p = false → K (some (.int 0)) a I J Q) ∧ ((B q).testBit p = true → K (some (.int 1)) a (up2 (up2 I 49 q (nI (B q ^^^ 2 ^ p))) 31 25 (I 31 25 - 1)) J Q)) : i_rfree.2.2.2.2.2 [.ref 31, .int x, .int y] a I J Q K := by
  have hm := hl.2.1
  have hlt := lawR_lt hl
  refine Exists.intro x (And.intro rfl (And.intro trivial (bI_cases' (bw x (I 31 19)) (fun r1 => Exists.intro y (And.intro rfl (And.intro trivial (bI_cases (bw y (I 31 19)) (fun r2 => ?_) (fun r2 => h0 (Or.inr (by rw [hl.1] at r2; exact r2))))))) (fun r1 => h0 (Or.inl (by rw [hl.1] at r1; exact r1))))))
  rw [hl.1] at r1 r2
  obtain ⟨p, hp, rfl⟩ := bw_nat (by omega) r1
  obtain ⟨q, hq, rfl⟩ := bw_nat (by omega) r2
  obtain ⟨g3, g4⟩ := h1 p q hp hq rfl rfl
  have ecq : (nI q).toNatClampNeg = q := nI_clamp (by omega)
  have hin : vp_in (nI q) 10 := vp_in_nI (by omega) (by decide)
  have e49 : I 49 (nI q).toNatClampNeg = nI (B q) := by rw [ecq]; exact hl.2.2.1 q (by omega)
  have hb2 : (I 49 (nI q).toNatClampNeg >>> (nI p &&& 31)) &&& 1 = nI (if (B q).testBit p = true then 1 else 0) := by
    rw [e49]
    exact bit1 (by have := hlt q (by omega); omega) (by omega)
  refine And.intro hin (And.intro (fun (c2 : ¬ (I 49 (nI q).toNatClampNeg >>> (nI p &&& 31)) &&& 1 = 0) => ?_) (fun (c2 : (I 49 (nI q).toNatClampNeg >>> (nI p &&& 31)) &&& 1 = 0) => ?_))
  · have hbt : (B q).testBit p = true := by
      cases hc : (B q).testBit p with
      | true => rfl
      | false => rw [hb2, hc] at c2; exact absurd rfl c2
    have e1 := (lw_an p (by omega) (B q) (hlt q (by omega)) hbt).1
    have g5 : ∀ q' v w, q' = q → v = nI (B q ^^^ 2 ^ p) → w = I 31 25 - 1 → K (some (.int 1)) a (up2 (up2 I 49 q' v) 31 25 w) J Q := fun q' v w e1 e2 e3 => by rw [e1, e2, e3]; exact g4 hbt
    refine And.intro hin (And.intro hin ?_)
    exact g5 _ _ _ ecq (by rw [e49]; exact e1) (by rw [up2_ne (by decide)])
  · have hbt : (B q).testBit p = false := by
      cases hc : (B q).testBit p with
      | false => rfl
      | true => rw [hb2, hc] at c2; exact absurd c2 (by decide)
    exact g3 hbt
set_option maxRecDepth 20000 in
theorem o_ahead (x y : Int32) : opI i_ahead i_rahead [.ref 0, .int x, .int y] [.ref 31, .int x, .int y] := by
  intro a I J Q h
  obtain ⟨ha, hT, n, m, wb, mg, wl, ks, C, W, H, kp, S, X, Y, T, Kd, B, hr⟩ := id h
  obtain ⟨hA, ⟨⟨p1, p2, p3⟩, p4, p5⟩, hL, -⟩ := id hr
  have hlt := rL_lt hL
  have hl := rL_R hL p4 p2
  have hd : ∀ {p q p' q' : Nat}, p < m → q < m → p' < m → q' < m → nI p = nI p' → nI q = nI q' → p' = p ∧ q' = q := fun h1 h2 h3 h4 e1 e2 => ⟨((nI_eq (by omega) (by omega)).mp e1).symm, ((nI_eq (by omega) (by omega)).mp e2).symm⟩
  have h0 : (bw x (nI m) = false ∨ bw y (nI m) = false) → (60 ≤ a.1 ∧ i_rahead.2.2.2.2.2 [.ref 31, .int x, .int y] a I J Q (fun w a2 I2 J2 Q2 => (∃ x, some (Value.int (-1)) = some (.int x) ∧ w = some (.int x)) ∧ relE a2 I2 J2 Q2)) := fun hn => by
    refine And.intro ha (zz_rahead hl (fun _ => ⟨⟨_, rfl, rfl⟩, h⟩) (fun p q hp hq hx hy => ?_))
    rw [hx, hy, bw_of (by omega) hp, bw_of (by omega) hq] at hn
    rcases hn with hn | hn <;> cases hn
  refine zz_isP p1 p2 (bI_cases' (bw x (nI m)) (fun r1 => ?_) (fun r1 => h0 (Or.inl r1)))
  refine zz_isP p1 p2 (bI_cases (bw y (nI m)) (fun r2 => ?_) (fun r2 => h0 (Or.inr r2)))
  obtain ⟨p, hp, rfl⟩ := bw_nat (by omega) r1
  obtain ⟨q, hq, rfl⟩ := bw_nat (by omega) r2
  have hno : ∀ {P : Prop}, (bw (nI p) (nI m) = false ∨ bw (nI q) (nI m) = false) → P := fun hn => by
    rw [bw_of (by omega) hp, bw_of (by omega) hq] at hn
    rcases hn with hn | hn <;> cases hn
  have hst : (p = q ∨ mustN B q p = true) → (60 ≤ a.1 ∧ i_rahead.2.2.2.2.2 [.ref 31, .int (nI p), .int (nI q)] a I J Q (fun w a2 I2 J2 Q2 => (∃ x, some (Value.int (-3)) = some (.int x) ∧ w = some (.int x)) ∧ relE a2 I2 J2 Q2)) := fun hs => by
    refine And.intro ha (zz_rahead hl (fun hn => hno hn) (fun p' q' hp' hq' hx hy => ?_))
    obtain ⟨rfl, rfl⟩ := hd hp hq hp' hq' hx hy
    refine ⟨fun _ => ⟨⟨_, rfl, rfl⟩, h⟩, fun c1 c2 => ?_⟩
    rcases hs with hs | hs
    · exact absurd hs c1
    · rw [hs] at c2; cases c2
  refine And.intro (fun (c : nI p = nI q) => hst (Or.inl ((nI_eq (by omega) (by omega)).mp c))) (fun (c : ¬ nI p = nI q) => ?_)
  have c' : p ≠ q := fun e => c (by rw [e])
  refine Exists.intro (q, p, B) (And.intro rfl (And.intro ⟨hL.1, (show q < 10 by omega), (show p < 10 by omega)⟩ ?_))
  refine bI_cases' (mustN B q p) (fun rm => hst (Or.inr rm)) (fun rm => ?_)
  refine Exists.intro (p, q, B) (And.intro rfl (And.intro ⟨hL.1, (show p < 10 by omega), (show q < 10 by omega)⟩ ?_))
  refine bI_cases' ((B q).testBit p) (fun rb => ?_) (fun rb => ?_)
  · refine And.intro ha (zz_rahead hl (fun hn => hno hn) (fun p' q' hp' hq' hx hy => ?_))
    obtain ⟨rfl, rfl⟩ := hd hp hq hp' hq' hx hy
    refine ⟨fun hs => ?_, fun _ _ => ⟨fun _ => ⟨⟨_, rfl, rfl⟩, h⟩, fun k => by rw [rb] at k; cases k⟩⟩
    rcases hs with hs | hs
    · exact absurd hs c'
    · rw [rm] at hs; cases hs
  · refine Exists.intro (p, q, B) (And.intro rfl (And.intro ⟨hL.1, (show p < 10 by omega), (show q < 10 by omega)⟩ ?_))
    rintro v I1 J1 Q1 ⟨rfl, rfl, rfl, rfl⟩
    refine And.intro (Or.inl rfl) ?_
    show 60 ≤ a.1 ∧ i_rahead.2.2.2.2.2 [.ref 31, .int (nI p), .int (nI q)] a (up2 (up2 I 5 q (nI (B q ^^^ 2 ^ p))) 13 0 0) J1 Q1 _
    have z : ∀ k, k ≠ 5 → k ≠ 13 → up2 (up2 I 5 q (nI (B q ^^^ 2 ^ p))) 13 0 0 k = I k := fun k z1 z2 => by rw [up2_ne z2, up2_ne z1]
    have hl1 : lawR (up2 (up2 I 5 q (nI (B q ^^^ 2 ^ p))) 13 0 0) B m := ⟨by rw [z 31 (by decide) (by decide)]; exact p4, p2, fun r hr => by rw [z 49 (by decide) (by decide)]; exact hL.2.1 r hr, hl.2.2.2⟩
    refine And.intro ha (zz_rahead hl1 (fun hn => hno hn) (fun p' q' hp' hq' hx hy => ?_))
    obtain ⟨rfl, rfl⟩ := hd hp hq hp' hq' hx hy
    refine ⟨fun hs => ?_, fun _ _ => ⟨fun k => by (rw [rb] at k; cases k), fun _ => ⟨⟨_, rfl, rfl⟩, ?_⟩⟩⟩
    · rcases hs with hs | hs
      · exact absurd hs c'
      · rw [rm] at hs; cases hs
    · have hor := lw_or p' (by omega) (B q') (hlt q' (by omega)) rb
      have hbits : ∀ r s, (chB B p' q' r).testBit s = true → (B r).testBit s = true ∨ (r = q' ∧ s = p') := fun r s hrs => by
        by_cases e : r = q'
        · subst e
          rw [chB_at, Nat.testBit_xor, Nat.testBit_two_pow] at hrs
          by_cases e2 : p' = s
          · exact Or.inr ⟨rfl, e2.symm⟩
          · rw [decide_eq_false e2, Bool.xor_false] at hrs
            exact Or.inl hrs
        · rw [chB_ne e] at hrs
          exact Or.inl hrs
      have hcnt : lwc (chB B p' q') 10 = lwc B 10 + 1 := by
        have := lwc_up (B := B) (B' := chB B p' q') (q := q') (d := 1) (e := 0) (fun r hr => chB_ne hr) (by rw [chB_at, hor.2.1]) 10
        rw [if_pos (by omega), if_pos (by omega)] at this
        omega
      obtain ⟨rk, hrk⟩ := hL.2.2.1.2.2
      refine rel_law (B' := chB B p' q') ha hT hr (fun k z1 z2 z3 z4 => by rw [up2_ne z3, up2_ne z4, z k z1 z2]) (fun j hj => by rw [up2_nej hj, up2_ne (by decide), z 31 (by decide) (by decide)]) (by rw [up2_ne (by decide), up2_ne (by decide), up2_at]) (fun r hr => ?_) (fun r hr => ?_) (by rw [up2_at, z 31 (by decide) (by decide), hL.2.2.2, hcnt, nI_1]) ⟨fun r hr => ?_, fun r hr1 hr2 => ?_, ?_⟩ (fun r hr => ?_)
      · rw [up2_ne (by decide), up2_ne (by decide), up2_ne (by decide)]
        by_cases e : r = q'
        · subst e; rw [up2_at, chB_at]
        · rw [up2_nej e, chB_ne e]; exact (hL.1 r hr).1
      · rw [up2_ne (by decide)]
        by_cases e : r = q'
        · subst e; rw [up2_at, chB_at]
        · rw [up2_nej e, chB_ne e, z 49 (by decide) (by decide)]; exact hL.2.1 r hr
      · by_cases e : r = q'
        · subst e; rw [chB_at]; exact Nat.xor_lt_two_pow (hl.2.2.2 r hr) (Nat.pow_lt_pow_right (by decide) hp)
        · rw [chB_ne e]; exact hl.2.2.2 r hr
      · rw [chB_ne (by omega)]; exact hL.2.2.1.2.1 r hr1 hr2
      · exact rk_ahead hlt (show p' < 10 by omega) (show q' < 10 by omega) c' rm hrk (fun r s _ hrs => hbits r s hrs)
      · by_cases e : r = q'
        · subst e; rw [chB_at]; exact hor.2.2
        · rw [chB_ne e]; exact hlt r hr
set_option maxRecDepth 20000 in
theorem o_free (x y : Int32) : opI i_free i_rfree [.ref 0, .int x, .int y] [.ref 31, .int x, .int y] := by
  intro a I J Q h
  obtain ⟨ha, hT, n, m, wb, mg, wl, ks, C, W, H, kp, S, X, Y, T, Kd, B, hr⟩ := id h
  obtain ⟨hA, ⟨⟨p1, p2, p3⟩, p4, p5⟩, hL, -⟩ := id hr
  have hlt := rL_lt hL
  have hl := rL_R hL p4 p2
  have hd : ∀ {p q p' q' : Nat}, p < m → q < m → p' < m → q' < m → nI p = nI p' → nI q = nI q' → p' = p ∧ q' = q := fun h1 h2 h3 h4 e1 e2 => ⟨((nI_eq (by omega) (by omega)).mp e1).symm, ((nI_eq (by omega) (by omega)).mp e2).symm⟩
  have h0 : (bw x (nI m) = false ∨ bw y (nI m) = false) → (60 ≤ a.1 ∧ i_rfree.2.2.2.2.2 [.ref 31, .int x, .int y] a I J Q (fun w a2 I2 J2 Q2 => (∃ x, some (Value.int (-1)) = some (.int x) ∧ w = some (.int x)) ∧ relE a2 I2 J2 Q2)) := fun hn => by
    refine And.intro ha (zz_rfree hl (fun _ => ⟨⟨_, rfl, rfl⟩, h⟩) (fun p q hp hq hx hy => ?_))
    rw [hx, hy, bw_of (by omega) hp, bw_of (by omega) hq] at hn
    rcases hn with hn | hn <;> cases hn
  refine zz_isP p1 p2 (bI_cases' (bw x (nI m)) (fun r1 => ?_) (fun r1 => h0 (Or.inl r1)))
  refine zz_isP p1 p2 (bI_cases (bw y (nI m)) (fun r2 => ?_) (fun r2 => h0 (Or.inr r2)))
  obtain ⟨p, hp, rfl⟩ := bw_nat (by omega) r1
  obtain ⟨q, hq, rfl⟩ := bw_nat (by omega) r2
  have hno : ∀ {P : Prop}, (bw (nI p) (nI m) = false ∨ bw (nI q) (nI m) = false) → P := fun hn => by
    rw [bw_of (by omega) hp, bw_of (by omega) hq] at hn
    rcases hn with hn | hn <;> cases hn
  refine Exists.intro (p, q, B) (And.intro rfl (And.intro ⟨hL.1, (show p < 10 by omega), (show q < 10 by omega)⟩ ?_))
  refine bI_cases ((B q).testBit p) (fun rb => ?_) (fun rb => ?_)
  · refine Exists.intro (p, q, B) (And.intro rfl (And.intro ⟨hL.1, (show p < 10 by omega), (show q < 10 by omega)⟩ ?_))
    rintro v I1 J1 Q1 ⟨rfl, rfl, rfl, rfl⟩
    refine And.intro (Or.inl rfl) ?_
    show 60 ≤ a.1 ∧ i_rfree.2.2.2.2.2 [.ref 31, .int (nI p), .int (nI q)] a (up2 (up2 I 5 q (nI (B q ^^^ 2 ^ p))) 13 0 0) J1 Q1 _
    have z : ∀ k, k ≠ 5 → k ≠ 13 → up2 (up2 I 5 q (nI (B q ^^^ 2 ^ p))) 13 0 0 k = I k := fun k z1 z2 => by rw [up2_ne z2, up2_ne z1]
    have hl1 : lawR (up2 (up2 I 5 q (nI (B q ^^^ 2 ^ p))) 13 0 0) B m := ⟨by rw [z 31 (by decide) (by decide)]; exact p4, p2, fun r hr => by rw [z 49 (by decide) (by decide)]; exact hL.2.1 r hr, hl.2.2.2⟩
    refine And.intro ha (zz_rfree hl1 (fun hn => hno hn) (fun p' q' hp' hq' hx hy => ?_))
    obtain ⟨rfl, rfl⟩ := hd hp hq hp' hq' hx hy
    refine ⟨fun k => by (rw [rb] at k; cases k), fun _ => ⟨⟨_, rfl, rfl⟩, ?_⟩⟩
    have han := lw_an p' (by omega) (B q') (hlt q' (by omega)) rb
    have hbits : ∀ r s, (chB B p' q' r).testBit s = true → (B r).testBit s = true := fun r s hrs => by
      by_cases e : r = q'
      · subst e
        rw [chB_at, Nat.testBit_xor, Nat.testBit_two_pow] at hrs
        by_cases e2 : p' = s
        · rw [← e2]; exact rb
        · rw [decide_eq_false e2, Bool.xor_false] at hrs
          exact hrs
      · rw [chB_ne e] at hrs
        exact hrs
    have hcnt : lwc (chB B p' q') 10 + 1 = lwc B 10 := by
      have := lwc_up (B := B) (B' := chB B p' q') (q := q') (d := 0) (e := 1) (fun r hr => chB_ne hr) (by rw [chB_at, han.2.1, Nat.add_zero]) 10
      rw [if_pos (by omega), if_pos (by omega)] at this
      omega
    obtain ⟨rk, hrk⟩ := hL.2.2.1.2.2
    refine rel_law (B' := chB B p' q') ha hT hr (fun k z1 z2 z3 z4 => by rw [up2_ne z3, up2_ne z4, z k z1 z2]) (fun j hj => by rw [up2_nej hj, up2_ne (by decide), z 31 (by decide) (by decide)]) (by rw [up2_ne (by decide), up2_ne (by decide), up2_at]) (fun r hr => ?_) (fun r hr => ?_) (by rw [up2_at, z 31 (by decide) (by decide), hL.2.2.2, ← hcnt, nI_pred]) ⟨fun r hr => ?_, fun r hr1 hr2 => ?_, rk, rk_free hrk (fun r s _ hrs => hbits r s hrs)⟩ (fun r hr => ?_)
    · rw [up2_ne (by decide), up2_ne (by decide), up2_ne (by decide)]
      by_cases e : r = q'
      · subst e; rw [up2_at, chB_at]
      · rw [up2_nej e, chB_ne e]; exact (hL.1 r hr).1
    · rw [up2_ne (by decide)]
      by_cases e : r = q'
      · subst e; rw [up2_at, chB_at]
      · rw [up2_nej e, chB_ne e, z 49 (by decide) (by decide)]; exact hL.2.1 r hr
    · by_cases e : r = q'
      · subst e; rw [chB_at]; exact Nat.xor_lt_two_pow (hl.2.2.2 r hr) (Nat.pow_lt_pow_right (by decide) hp)
      · rw [chB_ne e]; exact hl.2.2.2 r hr
    · rw [chB_ne (by omega)]; exact hL.2.2.1.2.1 r hr1 hr2
    · by_cases e : r = q'
      · subst e; rw [chB_at]; exact han.2.2
      · rw [chB_ne e]; exact hlt r hr
  · refine And.intro ha (zz_rfree hl (fun hn => hno hn) (fun p' q' hp' hq' hx hy => ?_))
    obtain ⟨rfl, rfl⟩ := hd hp hq hp' hq' hx hy
    exact ⟨fun _ => ⟨⟨_, rfl, rfl⟩, h⟩, fun k => by rw [rb] at k; cases k⟩
