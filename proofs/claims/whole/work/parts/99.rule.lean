/-! rule, has, about -/
abbrev i_shAt : ev := (2, 9, false, 0, 0, inl false 0 0 [e_within] false false kX9_shapeAt 2)
theorem c_shAt {l : Launch} : CX l cdX9_shapeAt i_shAt := cm_inl RX9 edX9_shapeAt [e_within] false false kX9_shapeAt cwX9_shapeAt okX9_shapeAt ⟨⟨_, rfl, c_within⟩, trivial⟩ (by decide) rfl (fun h => Bool.noConfusion h)
set_option maxRecDepth 20000 in
theorem zz_shAt {x : Int32} {n : Nat} {ks : Nat → Nat} {a : hA} {I : hI} {J : hJ} {Q : hQ} {K : hR} (hn : I 0 9 = nI n) (hn12 : n ≤ 12) (hq : ∀ s, s < n → Q 1 s = some (ks s)) (h0 : bw x (nI n) = false → K (some .null) a I J Q) (h1 : ∀ s, s < n → x = nI s → K (some (.ref (ks s))) a I J Q) : i_shAt.2.2.2.2.2 [.ref 0, .int x] a I J Q K := by
  have e : wi x 0 (I 0 9 - 1) = bw x (nI n) := by rw [hn]; exact wi_bw hn12
  refine Exists.intro (x, 0, I 0 9 - 1) (And.intro rfl (And.intro trivial ?_))
  refine bI_cases' (wi x 0 (I 0 9 - 1)) (fun r => ?_) (fun r => h0 (by rw [e] at r; exact r))
  rw [e] at r
  obtain ⟨s, hs, rfl⟩ := bw_nat hn12 r
  have hqe : qE qX Q 1 (nI s).toNatClampNeg = some (ks s) := by
    rw [nI_clamp (by omega)]
    exact hq s hs
  refine And.intro (show vp_in (nI s) 12 from vp_in_nI (by omega) (by decide)) ?_
  rw [hqe]
  exact h1 s hs rfl
abbrev i_chWeb : ev := (2, 9, false, 0, 0, inl false 0 0 [e_forget] false false kX9_changeWeb 3)
theorem c_chWeb {l : Launch} : CX l cdX9_changeWeb i_chWeb := cm_inl RX9 edX9_changeWeb [e_forget] false false kX9_changeWeb cwX9_changeWeb okX9_changeWeb ⟨⟨_, rfl, c_forget⟩, trivial⟩ (by decide) rfl (fun h => Bool.noConfusion h)
abbrev i_chMar : ev := (2, 9, false, 0, 0, inl false 0 0 [e_forget] false false kX9_changeMargin 3)
theorem c_chMar {l : Launch} : CX l cdX9_changeMargin i_chMar := cm_inl RX9 edX9_changeMargin [e_forget] false false kX9_changeMargin cwX9_changeMargin okX9_changeMargin ⟨⟨_, rfl, c_forget⟩, trivial⟩ (by decide) rfl (fun h => Bool.noConfusion h)
abbrev i_chWal : ev := (2, 9, false, 0, 0, inl false 0 0 [] false false kX9_changeWall 3)
theorem c_chWal {l : Launch} : CX l cdX9_changeWall i_chWal := cm_inl RX9 edX9_changeWall [] false false kX9_changeWall cwX9_changeWall okX9_changeWall trivial (by decide) rfl (fun h => Bool.noConfusion h)
abbrev i_rule : ev := (3, 9, false, 0, 0, inl false 0 0 [e_within, i_chWeb, i_chMar, i_chWal] false false kX9_rule 3)
theorem c_rule {l : Launch} : CX l cdX9_rule i_rule := cm_inl RX9 edX9_rule [e_within, i_chWeb, i_chMar, i_chWal] false false kX9_rule cwX9_rule okX9_rule ⟨⟨_, rfl, c_within⟩, ⟨_, rfl, c_chWeb⟩, ⟨_, rfl, c_chMar⟩, ⟨_, rfl, c_chWal⟩, trivial⟩ (by decide) rfl (fun h => Bool.noConfusion h)
abbrev i_rrule : ev := (3, 10, false, 0, 0, inl false 0 0 [e_within] false false kX10_rule 4)
theorem c_rrule {l : Launch} : CX l cdX10_rule i_rrule := cm_inl RX10 edX10_rule [e_within] false false kX10_rule cwX10_rule okX10_rule ⟨⟨_, rfl, c_rwithin⟩, trivial⟩ (by decide) rfl (fun h => Bool.noConfusion h)
set_option maxRecDepth 20000 in
theorem zz_rrule {x v : Int32} {a : hA} {I : hI} {J : hJ} {Q : hQ} {K : hR} (h0 : ¬ x = 0 → ¬ x = 1 → ¬ x = 2 → K (some (.int (-1))) a I J Q) (h1 : ∀ j, j < 3 → x = nI j → (wi v 0 (if j = 2 then 4 else 3) = false → K (some (.int (-2))) a I J Q) ∧ (wi v 0 (if j = 2 then 4 else 3) = true → K (some (.int (I 37 j))) a (up2 I 37 j v) J Q)) : i_rrule.2.2.2.2.2 [.ref 31, .int x, .int v] a I J Q K := by
  refine Exists.intro (x, 0, 2) (And.intro rfl (And.intro trivial (bI_cases (wi x 0 2) (fun r1 => ?_) (fun r1 => h0 (fun e => by rw [e] at r1; exact absurd r1 (by decide)) (fun e => by rw [e] at r1; exact absurd r1 (by decide)) (fun e => by rw [e] at r1; exact absurd r1 (by decide))))))
  obtain ⟨j, hj, rfl⟩ := wi_nat (n := 2) (by decide) r1
  obtain ⟨g1, g2⟩ := h1 j (by omega) rfl
  have ecj : (nI j).toNatClampNeg = j := nI_clamp (by omega)
  have hin : vp_in (nI j) 3 := vp_in_nI (by omega) (by decide)
  have g3 : ∀ k, k = j → wi v 0 (if j = 2 then 4 else 3) = true → K (some (.int (I 37 k))) a (up2 I 37 k v) J Q := fun k e r => by rw [e]; exact g2 r
  refine And.intro (fun (c : ¬ nI j = 2) => ?_) (fun (c : nI j = 2) => ?_)
  · have hj2 : ¬ j = 2 := fun e => c (by rw [e]; rfl)
    rw [if_neg hj2] at g1 g3
    refine Exists.intro (v, 0, 3) (And.intro rfl (And.intro trivial (bI_cases (wi v 0 3) (fun r2 => ?_) (fun r2 => g1 r2))))
    exact And.intro hin (And.intro hin (g3 _ ecj r2))
  · have hj2 : j = 2 := (nI_eq (b := 2) (by omega) (by decide)).mp c
    rw [if_pos hj2] at g1 g3
    refine Exists.intro (v, 0, 4) (And.intro rfl (And.intro trivial (bI_cases (wi v 0 4) (fun r2 => ?_) (fun r2 => g1 r2))))
    exact And.intro hin (And.intro hin (g3 _ ecj r2))
/-- a rule was changed, the cache forgotten or the plan -/
theorem rel_rule {a : hA} {I I' : hI} {J : hJ} {Q : hQ} {n m wb mg wl wb' mg' wl' : Nat} {ks C W H kp S X Y T Kd B : Nat → Nat} (ha : 60 ≤ a.1) (hT : rT I) (h : rel a I J Q n m wb mg wl ks C W H kp S X Y T Kd B) (f : ∀ k, k ≠ 0 → k ≠ 7 → k ≠ 13 → k ≠ 37 → I' k = I k) (f0 : ∀ j, j ≠ 11 → j ≠ 12 → j ≠ 13 → I' 0 j = I 0 j) (hR : rR I' wb' mg' wl') (hK : rK I' n wb' mg' C W H ∧ rK0 I' n) (hN : I' 13 0 = 0 ∨ (I' 13 = I 13 ∧ wl' = wl)) : relE a I' J Q := by
  obtain ⟨⟨a1, a2, a3, a4⟩, ⟨p1, p2, p3⟩, ⟨l1, l2, l3, l4⟩, -, -, s, ⟨n1, n2⟩, mu⟩ := h
  have big : ∀ k, 60 ≤ k → I' k = I k := fun k hk => f k (by omega) (by omega) (by omega) (by omega)
  have f31 : I' 31 = I 31 := f 31 (by decide) (by decide) (by decide) (by decide)
  have e : ∀ k, k ≠ 0 → k ≠ 7 → k ≠ 13 → k ≠ 37 → I' k = I k := f
  refine ⟨ha, ⟨by rw [f31, f0 14 (by decide) (by decide) (by decide)]; exact hT.1, by rw [f31, f0 15 (by decide) (by decide) (by decide)]; exact hT.2⟩, n, m, wb', mg', wl', ks, C, W, H, kp, S, X, Y, T, Kd, B, ⟨by rw [f0 9 (by decide) (by decide) (by decide)]; exact a1, by rw [f31]; exact a2, a3, fun t ht => ?_⟩, ⟨cpn_of3 p1 (f0 10 (by decide) (by decide) (by decide)) big (fun _ _ => rfl) (fun _ _ => rfl) rfl, by rw [f31]; exact p2, fun p hp => ?_⟩, ⟨fun p hp => ?_, fun p hp => ?_, l3, by rw [f31]; exact l4⟩, hR, hK, fun b hb => ?_, ⟨n1, ?_⟩, mu⟩
  · obtain ⟨q1, q2, q3, q4⟩ := a4 t ht
    have := ob7_big q2.1.1
    exact ⟨q1, shw_of3 q2 (big _ this) rfl, rsh_of3 q3 (e 32 (by decide) (by decide) (by decide) (by decide)) (e 33 (by decide) (by decide) (by decide) (by decide)) (e 34 (by decide) (by decide) (by decide) (by decide)), q4⟩
  · rw [e 44 (by decide) (by decide) (by decide) (by decide), e 45 (by decide) (by decide) (by decide) (by decide), e 46 (by decide) (by decide) (by decide) (by decide), e 47 (by decide) (by decide) (by decide) (by decide), e 48 (by decide) (by decide) (by decide) (by decide)]
    exact p3 p hp
  · rw [e 5 (by decide) (by decide) (by decide) (by decide)]; exact l1 p hp
  · rw [e 49 (by decide) (by decide) (by decide) (by decide)]; exact l2 p hp
  · have s0 : 23 ≤ shK b ∧ shK b + 1 < 31 := by unfold shK; omega
    exact rSb_i (s b hb) (e _ (by omega) (by omega) (by omega) (by omega)) (e _ (by omega) (by omega) (by omega) (by omega)) (e 38 (by decide) (by decide) (by decide) (by decide)) (e 39 (by decide) (by decide) (by decide) (by decide)) (e 40 (by decide) (by decide) (by decide) (by decide))
  · rcases hN with hN | ⟨hN, rfl⟩
    · exact Or.inl hN
    · rw [hN]
      rcases n2 with n2 | ⟨n2, F, K, g, q1, q2, q3, q4, q5, q6⟩
      · exact Or.inl n2
      · exact Or.inr ⟨n2, F, K, g, q1, q2, q3, by rw [hN]; exact q4, by rw [hN]; exact q5, q6⟩
set_option maxRecDepth 20000 in
theorem o_rule (x v : Int32) : opI i_rule i_rrule [.ref 0, .int x, .int v] [.ref 31, .int x, .int v] := by
  intro a I J Q h
  obtain ⟨ha, hT, n, m, wb, mg, wl, ks, C, W, H, kp, S, X, Y, T, Kd, B, hr⟩ := id h
  obtain ⟨⟨-, -, n12, -⟩, -, -, ⟨⟨r1, r2, r3⟩, ⟨r4, r5, r6⟩, r7, r8, r9⟩, ⟨k1, k2⟩, -⟩ := id hr
  have hj3 : ∀ j j', j < 3 → j' < 3 → nI j = nI j' → j' = j := fun j j' h1 h2 e => ((nI_eq (by omega) (by omega)).mp e).symm
  have hout : ∀ j, j < 3 → x = nI j → wi v 0 (if j = 2 then 4 else 3) = false → (60 ≤ a.1 ∧ i_rrule.2.2.2.2.2 [.ref 31, .int x, .int v] a I J Q (fun w a2 I2 J2 Q2 => (∃ x, some (Value.int (-2)) = some (.int x) ∧ w = some (.int x)) ∧ relE a2 I2 J2 Q2)) := fun j hj hx r => by
    refine And.intro ha (zz_rrule (fun e0 e1 e2 => ?_) (fun j' hj' hx' => ?_))
    · exfalso
      rcases (show j = 0 ∨ j = 1 ∨ j = 2 by omega) with rfl | rfl | rfl
      · exact e0 hx
      · exact e1 hx
      · exact e2 hx
    · obtain rfl := hj3 j j' hj hj' (hx.symm.trans hx')
      exact ⟨fun _ => ⟨⟨_, rfl, rfl⟩, h⟩, fun k => by rw [r] at k; cases k⟩
  have hin : ∀ j, j < 3 → x = nI j → wi v 0 (if j = 2 then 4 else 3) = true → ∀ I1 : hI, I1 37 = I 37 → (relE a (up2 I1 37 j v) J Q) → ∀ u, u = I 37 j → (60 ≤ a.1 ∧ i_rrule.2.2.2.2.2 [.ref 31, .int x, .int v] a I1 J Q (fun w a2 I2 J2 Q2 => (∃ x, some (Value.int u) = some (.int x) ∧ w = some (.int x)) ∧ relE a2 I2 J2 Q2)) := fun j hj hx r I1 h37 hrel u hu => by
    refine And.intro ha (zz_rrule (fun e0 e1 e2 => ?_) (fun j' hj' hx' => ?_))
    · exfalso
      rcases (show j = 0 ∨ j = 1 ∨ j = 2 by omega) with rfl | rfl | rfl
      · exact e0 hx
      · exact e1 hx
      · exact e2 hx
    · obtain rfl := hj3 j j' hj hj' (hx.symm.trans hx')
      exact ⟨fun k => by (rw [r] at k; cases k), fun _ => ⟨⟨_, rfl, by rw [hu, h37]⟩, hrel⟩⟩
  have hfz : ∀ I1 : hI, (∀ r, r < 144 → I1 7 r = 0) → ∀ wb mg, rK I1 n wb mg C W H ∧ rK0 I1 n := fun I1 hz wb mg => ⟨fun s t hs ht => Or.inl (hz _ (by omega)), fun s t hs ht _ => hz _ (by omega)⟩
  refine And.intro (fun (c : x = 0) => ?_) (fun (c0 : ¬ x = 0) => And.intro (fun (c : x = 1) => ?_) (fun (c1 : ¬ x = 1) => And.intro (fun (c : x = 2) => ?_) (fun (c2 : ¬ x = 2) => ?_)))
  · refine Exists.intro (v, 0, 3) (And.intro rfl (And.intro trivial (bI_cases' (wi v 0 3) (fun r => ?_) (fun r => hout 0 (by decide) c r))))
    refine Exists.intro () (And.intro rfl (And.intro trivial ?_))
    rintro w I1 J1 Q1 ⟨rfl, rfl, rfl, z1, z2⟩
    obtain ⟨v', hv', rfl⟩ := wi_nat (n := 3) (by decide) r
    have e : ∀ k, k ≠ 0 → k ≠ 7 → I1 k = I k := fun k q1 q2 => by rw [z1 k q2, up2_ne q1]
    have e0 : ∀ j, I1 0 j = up2 I 0 11 (nI v') 0 j := fun j => by rw [z1 0 (by decide)]
    refine hin 0 (by decide) c r I1 (e 37 (by decide) (by decide)) ?_ (I 0 11) (by rw [r1, r2])
    refine rel_rule ha hT hr (wb' := v') (mg' := mg) (wl' := wl) (fun k q1 q2 q3 q4 => by rw [up2_ne q4, e k q1 q2]) (fun j q1 q2 q3 => by rw [up2_ne (by decide), e0, up2_nej q1]) ⟨⟨by rw [up2_ne (by decide), e0, up2_at], by rw [up2_at], hv'⟩, ⟨by rw [up2_ne (by decide), e0, up2_nej (by decide)]; exact r4, by rw [up2_nej (by decide), e 37 (by decide) (by decide)]; exact r5, r6⟩, by rw [up2_ne (by decide), e0, up2_nej (by decide)]; exact r7, by rw [up2_nej (by decide), e 37 (by decide) (by decide)]; exact r8, r9⟩ (hfz _ (fun q hq => by rw [up2_ne (by decide)]; exact z2 q hq) _ _) (Or.inr ⟨by rw [up2_ne (by decide), e 13 (by decide) (by decide)], rfl⟩)
  · refine Exists.intro (v, 0, 3) (And.intro rfl (And.intro trivial (bI_cases' (wi v 0 3) (fun r => ?_) (fun r => hout 1 (by decide) c r))))
    refine Exists.intro () (And.intro rfl (And.intro trivial ?_))
    rintro w I1 J1 Q1 ⟨rfl, rfl, rfl, z1, z2⟩
    obtain ⟨v', hv', rfl⟩ := wi_nat (n := 3) (by decide) r
    have e : ∀ k, k ≠ 0 → k ≠ 7 → I1 k = I k := fun k q1 q2 => by rw [z1 k q2, up2_ne q1]
    have e0 : ∀ j, I1 0 j = up2 I 0 12 (nI v') 0 j := fun j => by rw [z1 0 (by decide)]
    refine hin 1 (by decide) c r I1 (e 37 (by decide) (by decide)) ?_ (I 0 12) (by rw [r4, r5])
    refine rel_rule ha hT hr (wb' := wb) (mg' := v') (wl' := wl) (fun k q1 q2 q3 q4 => by rw [up2_ne q4, e k q1 q2]) (fun j q1 q2 q3 => by rw [up2_ne (by decide), e0, up2_nej q2]) ⟨⟨by rw [up2_ne (by decide), e0, up2_nej (by decide)]; exact r1, by rw [up2_nej (by decide), e 37 (by decide) (by decide)]; exact r2, r3⟩, ⟨by rw [up2_ne (by decide), e0, up2_at], by rw [up2_at], hv'⟩, by rw [up2_ne (by decide), e0, up2_nej (by decide)]; exact r7, by rw [up2_nej (by decide), e 37 (by decide) (by decide)]; exact r8, r9⟩ (hfz _ (fun q hq => by rw [up2_ne (by decide)]; exact z2 q hq) _ _) (Or.inr ⟨by rw [up2_ne (by decide), e 13 (by decide) (by decide)], rfl⟩)
  · refine Exists.intro (v, 0, 4) (And.intro rfl (And.intro trivial (bI_cases' (wi v 0 4) (fun r => ?_) (fun r => hout 2 (by decide) c r))))
    obtain ⟨v', hv', rfl⟩ := wi_nat (n := 4) (by decide) r
    refine And.intro (Or.inl rfl) ?_
    refine hin 2 (by decide) c r (up2 (up2 I 0 13 (nI v')) 13 0 0) (by rw [up2_ne (by decide), up2_ne (by decide)]) ?_ (I 0 13) (by rw [r7, r8])
    have e : ∀ k, k ≠ 0 → k ≠ 13 → up2 (up2 I 0 13 (nI v')) 13 0 0 k = I k := fun k q1 q2 => by rw [up2_ne q2, up2_ne q1]
    have e0 : ∀ j, up2 (up2 I 0 13 (nI v')) 13 0 0 0 j = up2 I 0 13 (nI v') 0 j := fun j => by rw [up2_ne (by decide)]
    refine rel_rule ha hT hr (wb' := wb) (mg' := mg) (wl' := v') (fun k q1 q2 q3 q4 => by rw [up2_ne q4, e k q1 q3]) (fun j q1 q2 q3 => by rw [up2_ne (by decide), e0, up2_nej q3]) ⟨⟨by rw [up2_ne (by decide), e0, up2_nej (by decide)]; exact r1, by rw [up2_nej (by decide), e 37 (by decide) (by decide)]; exact r2, r3⟩, ⟨by rw [up2_ne (by decide), e0, up2_nej (by decide)]; exact r4, by rw [up2_nej (by decide), e 37 (by decide) (by decide)]; exact r5, r6⟩, by rw [up2_ne (by decide), e0, up2_at], by rw [up2_at], hv'⟩ ⟨fun s t h1 h2 => by rw [up2_ne (by decide), e 7 (by decide) (by decide)]; exact k1 s t h1 h2, fun s t h1 h2 h3 => by rw [up2_ne (by decide), e 7 (by decide) (by decide)]; exact k2 s t h1 h2 h3⟩ (Or.inl (by rw [up2_ne (by decide), up2_at]))
  · refine And.intro ha (zz_rrule (fun _ _ _ => ⟨⟨_, rfl, rfl⟩, h⟩) (fun j hj hx => ?_))
    exfalso
    rcases (show j = 0 ∨ j = 1 ∨ j = 2 by omega) with rfl | rfl | rfl
    · exact c0 hx
    · exact c1 hx
    · exact c2 hx
