/-! has, about -/
theorem hs_bit : ∀ x, x < 8 → ∀ r, r < 256 → ((nI r).toUInt32 >>> ((nI x).toUInt32 &&& Int32.toUInt32 31)).toInt32 &&& 1 = nI (if r.testBit x = true then 1 else 0) := by decide +kernel
abbrev i_has : ev := (4, 9, false, 0, 0, inl false 0 0 [i_shAt, e_within, e_row] false false kX9_has 5)
theorem c_has9 {l : Launch} : CX l cdX9_has i_has := cm_inl RX9 edX9_has [i_shAt, e_within, e_row] false false kX9_has cwX9_has okX9_has ⟨⟨_, rfl, c_shAt⟩, ⟨_, rfl, c_within⟩, ⟨_, rfl, c_row⟩, trivial⟩ (by decide) rfl (fun h => Bool.noConfusion h)
abbrev i_rhas : ev := (4, 10, false, 0, 0, inl false 0 0 [e_isShape, e_within, e_hasCell] false false kX10_has 4)
theorem c_rhas {l : Launch} : CX l cdX10_has i_rhas := cm_inl RX10 edX10_has [e_isShape, e_within, e_hasCell] false false kX10_has cwX10_has okX10_has ⟨⟨_, rfl, c_isShape⟩, ⟨_, rfl, c_rwithin⟩, ⟨_, rfl, c_hasCell⟩, trivial⟩ (by decide) rfl (fun h => Bool.noConfusion h)
set_option maxRecDepth 20000 in
theorem zz_rhas {z x y : Int32} {n : Nat} {a : hA} {I : hI} {J : hJ} {Q : hQ} {K : hR} (hn : I 31 2 = nI n) (hn12 : n ≤ 12) (h0 : bw z (nI n) = false → K (some (.int (-1))) a I J Q) (h1 : ∀ s, s < n → z = nI s → ((wi x 0 7 = false ∨ wi y 0 7 = false) → K (some (.int (-2))) a I J Q) ∧ (wi x 0 7 = true → wi y 0 7 = true → ∃ c, rwA I 32 (8 * s) c ∧ (hcB c x y = true → K (some (.int 1)) a I J Q) ∧ (hcB c x y = false → K (some (.int 0)) a I J Q))) : i_rhas.2.2.2.2.2 [.ref 31, .int z, .int x, .int y] a I J Q K := by
  refine Exists.intro z (And.intro rfl (And.intro trivial (bI_cases (bw z (I 31 2)) (fun r => ?_) (fun r => h0 (by rw [hn] at r; exact r)))))
  rw [hn] at r
  obtain ⟨s, hs, rfl⟩ := bw_nat hn12 r
  obtain ⟨g1, g2⟩ := h1 s hs rfl
  refine Exists.intro (x, 0, 7) (And.intro rfl (And.intro trivial (bI_cases' (wi x 0 7) (fun r1 => ?_) (fun r1 => g1 (Or.inl r1)))))
  refine Exists.intro (y, 0, 7) (And.intro rfl (And.intro trivial (bI_cases (wi y 0 7) (fun r2 => ?_) (fun r2 => g1 (Or.inr r2)))))
  obtain ⟨c, g3, g4, g5⟩ := g2 r1 r2
  refine Exists.intro (s, x, y, c) (And.intro rfl (And.intro ⟨(show s < 12 by omega), g3⟩ ?_))
  exact bI_cases' (hcB c x y) g4 g5
set_option maxRecDepth 20000 in
theorem o_has (z x y : Int32) : opI i_has i_rhas [.ref 0, .int z, .int x, .int y] [.ref 31, .int z, .int x, .int y] := by
  intro a I J Q h
  obtain ⟨ha, hT, n, m, wb, mg, wl, ks, C, W, H, kp, S, X, Y, T, Kd, B, ⟨a1, a2, a3, a4⟩, -⟩ := id h
  refine zz_shAt a1 a3 (fun s hs => (a4 s hs).1) (fun r => ?_) (fun s hs hz => ?_)
  · refine And.intro ha (zz_rhas a2 a3 (fun _ => ⟨⟨_, rfl, rfl⟩, h⟩) (fun s hs hz => ?_))
    rw [hz, bw_of a3 hs] at r
    cases r
  · subst hz
    obtain ⟨b1, b2, b3, b4⟩ := a4 s hs
    have hno : ∀ {P : Prop}, bw (nI s) (nI n) = false → P := fun r => by rw [bw_of a3 hs] at r; cases r
    have hss : ∀ t, t < n → nI s = nI t → t = s := fun t ht e => ((nI_eq (by omega) (by omega)).mp e).symm
    have hm2 : (wi x 0 7 = false ∨ wi y 0 7 = false) → (60 ≤ a.1 ∧ i_rhas.2.2.2.2.2 [.ref 31, .int (nI s), .int x, .int y] a I J Q (fun w a2 I2 J2 Q2 => (∃ x, some (Value.int (-2)) = some (.int x) ∧ w = some (.int x)) ∧ relE a2 I2 J2 Q2)) := fun hc => by
      refine And.intro ha (zz_rhas a2 a3 (fun r => hno r) (fun t ht hz => ⟨fun _ => ⟨⟨_, rfl, rfl⟩, h⟩, fun k1 k2 => ?_⟩))
      rcases hc with hc | hc
      · rw [hc] at k1; cases k1
      · rw [hc] at k2; cases k2
    refine Exists.intro (x, 0, 7) (And.intro rfl (And.intro trivial (bI_cases' (wi x 0 7) (fun r1 => ?_) (fun r1 => hm2 (Or.inl r1)))))
    refine Exists.intro (y, 0, 7) (And.intro rfl (And.intro trivial (bI_cases (wi y 0 7) (fun r2 => ?_) (fun r2 => hm2 (Or.inr r2)))))
    obtain ⟨xx, hx, rfl⟩ := wi_nat (n := 7) (by decide) r1
    obtain ⟨yy, hy, rfl⟩ := wi_nat (n := 7) (by decide) r2
    refine vko b2.1.1 rfl ?_
    refine Exists.intro (ks s, C s, yy) (And.intro rfl (And.intro ⟨b2.1, (show yy < 8 by omega)⟩ ?_))
    have hbit := hs_bit xx (by omega) (rowN (C s) yy) (rowN_lt _ _)
    have hcb : hcB (C s) (nI xx) (nI yy) = (rowN (C s) yy).testBit xx := by
      unfold hcB
      rw [r1, r2, nI_clamp (by omega), nI_clamp (by omega), rowN_bit, decide_eq_true (show xx < 8 by omega)]
      rfl
    refine And.intro ha (zz_rhas a2 a3 (fun r => hno r) (fun t ht hz => ⟨fun hc => ?_, fun _ _ => ?_⟩))
    · rw [r1, r2] at hc
      rcases hc with hc | hc <;> cases hc
    · obtain rfl := hss t ht hz
      refine ⟨C t, b3.2.2.1, fun k => ⟨⟨_, rfl, ?_⟩, h⟩, fun k => ⟨⟨_, rfl, ?_⟩, h⟩⟩
      · show some (Value.int 1) = some (.int (((nI (rowN (C t) yy)).toUInt32 >>> ((nI xx).toUInt32 &&& Int32.toUInt32 31)).toInt32 &&& 1))
        rw [hbit, ← hcb, k]
        rfl
      · show some (Value.int 0) = some (.int (((nI (rowN (C t) yy)).toUInt32 >>> ((nI xx).toUInt32 &&& Int32.toUInt32 31)).toInt32 &&& 1))
        rw [hbit, ← hcb, k]
        rfl
abbrev i_about : ev := (3, 9, false, 0, 0, inl false 0 0 [i_shAt, e_ccount, e_edge, e_pieces] false false kX9_about 4)
theorem c_about {l : Launch} : CX l cdX9_about i_about := cm_inl RX9 edX9_about [i_shAt, e_ccount, e_edge, e_pieces] false false kX9_about cwX9_about okX9_about ⟨⟨_, rfl, c_shAt⟩, ⟨_, rfl, c_ccount⟩, ⟨_, rfl, c_edge⟩, ⟨_, rfl, c_pieces⟩, trivial⟩ (by decide) rfl (fun h => Bool.noConfusion h)
abbrev i_rabout : ev := (3, 10, false, 0, 0, inl false 0 0 [e_isShape, e_cellsOf, e_edgeOf, e_piecesOf] false false kX10_about 3)
theorem c_rabout {l : Launch} : CX l cdX10_about i_rabout := cm_inl RX10 edX10_about [e_isShape, e_cellsOf, e_edgeOf, e_piecesOf] false false kX10_about cwX10_about okX10_about ⟨⟨_, rfl, c_isShape⟩, ⟨_, rfl, c_cellsOf⟩, ⟨_, rfl, c_edgeOf⟩, ⟨_, rfl, c_piecesOf⟩, trivial⟩ (by decide) rfl (fun h => Bool.noConfusion h)
set_option maxRecDepth 20000 in
theorem o_about (z y : Int32) : opI i_about i_rabout [.ref 0, .int z, .int y] [.ref 31, .int z, .int y] := by
  intro a I J Q h
  obtain ⟨ha, hT, n, m, wb, mg, wl, ks, C, W, H, kp, S, X, Y, T, Kd, B, ⟨a1, a2, a3, a4⟩, -⟩ := id h
  refine zz_shAt a1 a3 (fun s hs => (a4 s hs).1) (fun r => ?_) (fun s hs hz => ?_)
  · refine And.intro ha (Exists.intro z (And.intro rfl (And.intro trivial (bI_cases (bw z (I 31 2)) (fun r' => by rw [a2, r] at r'; cases r') (fun _ => ?_)))))
    exact ⟨⟨_, rfl, rfl⟩, h⟩
  · subst hz
    obtain ⟨b1, b2, b3, b4⟩ := a4 s hs
    have hb : bw (nI s) (I 31 2) = true := by rw [a2]; exact bw_of a3 hs
    have hs12 : s < 12 := by omega
    have ecs : (nI s).toNatClampNeg = s := nI_clamp (by omega)
    have hin : vp_in (nI s) 12 := vp_in_nI hs12 (by decide)
    refine And.intro (fun (c : y = 0) => ?_) (fun (c0 : ¬ y = 0) => And.intro (fun (c : y = 1) => ?_) (fun (c1 : ¬ y = 1) => And.intro (fun (c : y = 2) => ?_) (fun (c2 : ¬ y = 2) => And.intro (fun (c : y = 3) => ?_) (fun (c3 : ¬ y = 3) => And.intro (fun (c : y = 4) => ?_) (fun (c4 : ¬ y = 4) => ?_)))))
    · subst c
      refine vko b2.1.1 rfl ?_
      refine Exists.intro (ks s, C s) (And.intro rfl (And.intro b2.1 ?_))
      refine And.intro ha (Exists.intro (nI s) (And.intro rfl (And.intro trivial (bI_cases (bw (nI s) (I 31 2)) (fun _ => And.intro (fun _ => ?_) (fun c => absurd rfl c)) (fun r => by rw [hb] at r; cases r)))))
      exact Exists.intro (s, C s) (And.intro rfl (And.intro ⟨hs12, b3.2.2.1⟩ (And.intro (Exists.intro (nI (popN (C s))) (And.intro rfl rfl)) h)))
    · subst c
      refine cko (isOb_ck b2.1.1) ?_
      refine And.intro ha (Exists.intro (nI s) (And.intro rfl (And.intro trivial (bI_cases (bw (nI s) (I 31 2)) (fun _ => And.intro (fun c => absurd c (by decide)) (fun _ => And.intro (fun _ => ?_) (fun c => absurd rfl c))) (fun r => by rw [hb] at r; cases r)))))
      refine And.intro hin ?_
      exact And.intro (Exists.intro (I (ks s) 1) (And.intro rfl (show some (Value.int (I 33 (nI s).toNatClampNeg)) = some (.int (I (ks s) 1)) by rw [ecs, b3.2.2.2.1, b2.2.1]))) h
    · subst c
      refine cko (isOb_ck b2.1.1) ?_
      refine And.intro ha (Exists.intro (nI s) (And.intro rfl (And.intro trivial (bI_cases (bw (nI s) (I 31 2)) (fun _ => And.intro (fun c => absurd c (by decide)) (fun _ => And.intro (fun c => absurd c (by decide)) (fun _ => And.intro (fun _ => ?_) (fun c => absurd rfl c)))) (fun r => by rw [hb] at r; cases r)))))
      refine And.intro hin ?_
      exact And.intro (Exists.intro (I (ks s) 2) (And.intro rfl (show some (Value.int (I 34 (nI s).toNatClampNeg)) = some (.int (I (ks s) 2)) by rw [ecs, b3.2.2.2.2.1, b2.2.2.1]))) h
    · subst c
      refine vko b2.1.1 rfl ?_
      refine Exists.intro (ks s, C s) (And.intro rfl (And.intro b2.1 ?_))
      refine And.intro ha (Exists.intro (nI s) (And.intro rfl (And.intro trivial (bI_cases (bw (nI s) (I 31 2)) (fun _ => And.intro (fun c => absurd c (by decide)) (fun _ => And.intro (fun c => absurd c (by decide)) (fun _ => And.intro (fun c => absurd c (by decide)) (fun _ => And.intro (fun _ => ?_) (fun c => absurd rfl c))))) (fun r => by rw [hb] at r; cases r)))))
      exact Exists.intro (s, C s) (And.intro rfl (And.intro ⟨hs12, b3.2.2.1⟩ (And.intro (Exists.intro (nI (edS (C s) 8)) (And.intro rfl rfl)) h)))
    · subst c
      refine vko b2.1.1 rfl ?_
      refine Exists.intro (ks s, C s) (And.intro rfl (And.intro b2.1 ?_))
      rintro v I1 J1 Q1 ⟨rfl, rfl, rfl, k, rfl, -, hk⟩
      refine And.intro ha (Exists.intro (nI s) (And.intro rfl (And.intro trivial (bI_cases (bw (nI s) (I1 31 2)) (fun _ => And.intro (fun c => absurd c (by decide)) (fun _ => And.intro (fun c => absurd c (by decide)) (fun _ => And.intro (fun c => absurd c (by decide)) (fun _ => And.intro (fun c => absurd c (by decide)) (fun _ => And.intro (fun _ => ?_) (fun c => absurd rfl c)))))) (fun r => by rw [hb] at r; cases r)))))
      refine Exists.intro (s, C s) (And.intro rfl (And.intro ⟨hs12, b3.2.1, b3.2.2.1⟩ ?_))
      rintro v I2 J2 Q2 ⟨rfl, rfl, f, k2, rfl, hk2⟩
      have f : fr I1 I2 [35, 36] := f
      refine And.intro (Exists.intro (nI k) (And.intro rfl (by rw [nPcs_one _ _ _ hk2 hk]))) ?_
      exact relE_fr h ⟨fun q _ _ q3 => f q (by simp at q3 ⊢; omega), fun j _ _ => by rw [f 0 (by decide)], fun j _ => by rw [f 31 (by decide)]⟩ (frJ_refl _ _) ⟨by rw [f 0 (by decide), f 31 (by decide)]; exact hT.1, by rw [f 0 (by decide), f 31 (by decide)]; exact hT.2⟩
    · refine And.intro ha (Exists.intro (nI s) (And.intro rfl (And.intro trivial (bI_cases (bw (nI s) (I 31 2)) (fun _ => And.intro (fun c => absurd c c0) (fun _ => And.intro (fun c => absurd c c1) (fun _ => And.intro (fun c => absurd c c2) (fun _ => And.intro (fun c => absurd c c3) (fun _ => And.intro (fun c => absurd c c4) (fun _ => ?_)))))) (fun r => by rw [hb] at r; cases r)))))
      exact And.intro (Exists.intro (-2) (And.intro rfl rfl)) h
