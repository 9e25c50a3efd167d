/-! together -/
abbrev i_tog9 : ev := (3, 9, false, 0, 0, inl false 0 0 [i_punchAt, e_must, e_grow, e_walled9] false false kX9_together 5)
theorem c_tog9 {l : Launch} : CX l cdX9_together i_tog9 := cm_inl RX9 edX9_together [i_punchAt, e_must, e_grow, e_walled9] false false kX9_together cwX9_together okX9_together ⟨⟨_, rfl, c_punchAt⟩, ⟨_, rfl, c_must⟩, ⟨_, rfl, c_grow⟩, ⟨_, rfl, c_walled9⟩, trivial⟩ (by decide) rfl (fun h => Bool.noConfusion h)
abbrev i_rtog : ev := (3, 10, false, 0, 0, inl false 0 0 [e_risPunch, e_tog] false false kX10_together 3)
theorem c_rtog {l : Launch} : CX l cdX10_together i_rtog := cm_inl RX10 edX10_together [e_risPunch, e_tog] false false kX10_together cwX10_together okX10_together ⟨⟨_, rfl, c_risPunch⟩, ⟨_, rfl, c_tog⟩, trivial⟩ (by decide) rfl (fun h => Bool.noConfusion h)
/-- what the reference's plan rests on -/
theorem rel_plR {a : hA} {I : hI} {J : hJ} {Q : hQ} {n m wb mg wl : Nat} {ks C W H kp S X Y T Kd B : Nat → Nat} (h : rel a I J Q n m wb mg wl ks C W H kp S X Y T Kd B) : plR I m wl B S X Y (fun p => C (S p)) := by
  obtain ⟨⟨a1, a2, a3, a4⟩, ⟨⟨p1, p2, p3⟩, p4, p5⟩, hL, ⟨-, -, r7, r8, r9⟩, -⟩ := h
  refine ⟨rL_R hL p4 p2, ⟨r8, r9⟩, fun p hp => ?_⟩
  obtain ⟨q1, q2, q3, q4, q5, q6, q7, q8, q9⟩ := (p3 p hp).2
  obtain ⟨s1, s2, s3, s4, s5, s6⟩ := p5 p hp
  have hs := (a4 (S p) s1).2.2.1
  exact ⟨⟨s3, q4.2⟩, ⟨hs.2.2.1, hs.2.1⟩, ⟨s4, q5.2⟩, s5, q6.2⟩
set_option maxRecDepth 20000 in
theorem zz_rtog {x y : Int32} {m g : Nat} {B S X Y C : Nat → Nat} {a : hA} {I : hI} {J : hJ} {Q : hQ} {K : hR} (hpl : plR I m g B S X Y C) (h0 : (bw x (nI m) = false ∨ bw y (nI m) = false) → K (some (.int (-1))) a I J Q) (h1 : ∀ p q, p < m → q < m → x = nI p → y = nI q → (tgP B C X Y g p q → K (some (.int 1)) a I J Q) ∧ (¬ tgP B C X Y g p q → K (some (.int 0)) a I J Q)) : i_rtog.2.2.2.2.2 [.ref 31, .int x, .int y] a I J Q K := by
  have hl := hpl.1
  have hm := hl.2.1
  refine Exists.intro x (And.intro rfl (And.intro trivial (bI_cases' (bw x (I 31 19)) (fun r1 => Exists.intro y (And.intro rfl (And.intro trivial (bI_cases (bw y (I 31 19)) (fun r2 => ?_) (fun r2 => h0 (Or.inr (by rw [hl.1] at r2; exact r2))))))) (fun r1 => h0 (Or.inl (by rw [hl.1] at r1; exact r1))))))
  rw [hl.1] at r1 r2
  obtain ⟨p, hp, rfl⟩ := bw_nat (by omega) r1
  obtain ⟨q, hq, rfl⟩ := bw_nat (by omega) r2
  obtain ⟨g1, g2⟩ := h1 p q hp hq rfl rfl
  refine Exists.intro ((p, q), m, g, B, S, X, Y, C) (And.intro rfl (And.intro ⟨⟨hp, hq⟩, hpl⟩ ?_))
  rintro v I2 J2 Q2 ⟨rfl, rfl, rfl, b, rfl, hb⟩
  exact bI_cases' b (fun r => g1 (hb.mp r)) (fun r => g2 (fun ht => by rw [hb.mpr ht] at r; cases r))
theorem plR_o9 {I I' : hI} {m g : Nat} {B S X Y C : Nat → Nat} (h : plR I m g B S X Y C) (f : ∀ k, 31 ≤ k → k < 60 → I' k = I k) : plR I' m g B S X Y C := by
  obtain ⟨⟨h1, h2, h3, h4⟩, ⟨h5, h6⟩, h7⟩ := h
  refine ⟨⟨by rw [f 31 (by decide) (by decide)]; exact h1, h2, fun p hp => by rw [f 49 (by decide) (by decide)]; exact h3 p hp, h4⟩, ⟨by rw [f 37 (by decide) (by decide)]; exact h5, h6⟩, fun p hp => ?_⟩
  obtain ⟨⟨a1, a2⟩, ⟨a3, a4⟩, ⟨a5, a6⟩, a7, a8⟩ := h7 p hp
  exact ⟨⟨by rw [f 45 (by decide) (by decide)]; exact a1, a2⟩, ⟨fun y hy => by rw [f 32 (by decide) (by decide)]; exact a3 y hy, a4⟩, ⟨by rw [f 46 (by decide) (by decide)]; exact a5, a6⟩, by rw [f 47 (by decide) (by decide)]; exact a7, a8⟩
set_option maxRecDepth 20000 in
theorem o_tog (x y : Int32) : opI i_tog9 i_rtog [.ref 0, .int x, .int y] [.ref 31, .int x, .int y] := by
  intro a I J Q h
  obtain ⟨ha, hT, n, m, wb, mg, wl, ks, C, W, H, kp, S, X, Y, T, Kd, B, hr⟩ := id h
  have hpl := rel_plR hr
  obtain ⟨hA, ⟨⟨p1, p2, p3⟩, p4, p5⟩, hL, ⟨-, -, r7, r8, r9⟩, -⟩ := id hr
  have hd : ∀ {p q p' q' : Nat}, p < m → q < m → p' < m → q' < m → nI p = nI p' → nI q = nI q' → p' = p ∧ q' = q := fun h1 h2 h3 h4 e1 e2 => ⟨((nI_eq (by omega) (by omega)).mp e1).symm, ((nI_eq (by omega) (by omega)).mp e2).symm⟩
  have h0 : (bw x (nI m) = false ∨ bw y (nI m) = false) → (60 ≤ a.1 ∧ i_rtog.2.2.2.2.2 [.ref 31, .int x, .int y] a I J Q (fun w a2 I2 J2 Q2 => (∃ x, some (Value.int (-1)) = some (.int x) ∧ w = some (.int x)) ∧ relE a2 I2 J2 Q2)) := fun hn => by
    refine And.intro ha (zz_rtog hpl (fun _ => ⟨⟨_, rfl, rfl⟩, h⟩) (fun p q hp hq hx hy => ?_))
    rw [hx, hy, bw_of (by omega) hp, bw_of (by omega) hq] at hn
    rcases hn with hn | hn <;> cases hn
  have hq2 : ∀ p, p < m → Q 2 p = some (kp p) := fun p hp => (p3 p hp).1
  refine zz_pAt p1 p2 hq2 (fun r => zz_pAt p1 p2 hq2 (fun _ => h0 (Or.inl r)) (fun _ _ _ => h0 (Or.inl r))) (fun p hp hx => zz_pAt p1 p2 hq2 (fun r => h0 (Or.inr r)) (fun q hq hy => ?_))
  subst hx
  subst hy
  have hno : ∀ {P : Prop}, (bw (nI p) (nI m) = false ∨ bw (nI q) (nI m) = false) → P := fun hn => by
    rw [bw_of (by omega) hp, bw_of (by omega) hq] at hn
    rcases hn with hn | hn <;> cases hn
  have ht : ∀ I1 : hI, (∀ k, k ≠ 12 → I1 k = I k) → tgP B (fun p => C (S p)) X Y wl p q → (60 ≤ a.1 ∧ i_rtog.2.2.2.2.2 [.ref 31, .int (nI p), .int (nI q)] a I1 J Q (fun w a2 I2 J2 Q2 => (∃ x, some (Value.int 1) = some (.int x) ∧ w = some (.int x)) ∧ relE a2 I2 J2 Q2)) := fun I1 f1 hs => by
    refine And.intro ha (zz_rtog (plR_o9 hpl (fun k k1 k2 => f1 k (by omega))) (fun hn => hno hn) (fun p' q' hp' hq' hx hy => ?_))
    obtain ⟨rfl, rfl⟩ := hd hp hq hp' hq' hx hy
    refine ⟨fun _ => ⟨⟨_, rfl, rfl⟩, ?_⟩, fun k => absurd hs k⟩
    exact relE_fr h ⟨fun k _ _ k3 => f1 k (by simp at k3; omega), fun j _ _ => by rw [f1 0 (by decide)], fun j _ => by rw [f1 31 (by decide)]⟩ (frJ_refl _ _) ⟨by rw [f1 0 (by decide), f1 31 (by decide)]; exact hT.1, by rw [f1 0 (by decide), f1 31 (by decide)]; exact hT.2⟩
  have hf : ∀ I1 : hI, (∀ k, k ≠ 12 → I1 k = I k) → ¬ tgP B (fun p => C (S p)) X Y wl p q → (60 ≤ a.1 ∧ i_rtog.2.2.2.2.2 [.ref 31, .int (nI p), .int (nI q)] a I1 J Q (fun w a2 I2 J2 Q2 => (∃ x, some (Value.int 0) = some (.int x) ∧ w = some (.int x)) ∧ relE a2 I2 J2 Q2)) := fun I1 f1 hs => by
    refine And.intro ha (zz_rtog (plR_o9 hpl (fun k k1 k2 => f1 k (by omega))) (fun hn => hno hn) (fun p' q' hp' hq' hx hy => ?_))
    obtain ⟨rfl, rfl⟩ := hd hp hq hp' hq' hx hy
    refine ⟨fun k => absurd k hs, fun _ => ⟨⟨_, rfl, rfl⟩, ?_⟩⟩
    exact relE_fr h ⟨fun k _ _ k3 => f1 k (by simp at k3; omega), fun j _ _ => by rw [f1 0 (by decide)], fun j _ => by rw [f1 31 (by decide)]⟩ (frJ_refl _ _) ⟨by rw [f1 0 (by decide), f1 31 (by decide)]; exact hT.1, by rw [f1 0 (by decide), f1 31 (by decide)]; exact hT.2⟩
  refine And.intro (fun (c : ¬ nI p = nI q) => ?_) (fun (c : nI p = nI q) => ht I (fun _ _ => rfl) (Or.inl ((nI_eq (by omega) (by omega)).mp c)))
  have c' : p ≠ q := fun e => c (by rw [e])
  refine Exists.intro (p, q, B) (And.intro rfl (And.intro ⟨hL.1, (show p < 10 by omega), (show q < 10 by omega)⟩ ?_))
  refine bI_cases (mustN B p q) (fun rm => hf I (fun _ _ => rfl) ?_) (fun rm => ?_)
  · rintro (e | ⟨_, e, _⟩)
    · exact c' e
    · rw [rm] at e; cases e
  refine Exists.intro (q, p, B) (And.intro rfl (And.intro ⟨hL.1, (show q < 10 by omega), (show p < 10 by omega)⟩ ?_))
  refine bI_cases' (mustN B q p) (fun rm2 => hf I (fun _ _ => rfl) ?_) (fun rm2 => ?_)
  · rintro (e | ⟨e, _, _⟩)
    · exact c' e
    · rw [rm2] at e; cases e
  have hpp := (p3 p hp).2
  have hqq := (p3 q hq).2
  have hqf : qE qX Q (kp p) 5 = some (ks (S p)) := by rw [qE_big hpp.2.1]; exact hpp.2.2.2.2.2.2.2.1
  refine cko (isOb_ck hpp.1) ?_
  rw [hqf]
  refine Exists.intro (true, ks (S p), C (S p), wl) (And.intro (show [Value.ref 11, .ref (ks (S p)), .int (I 0 13)] = [.ref 11, .ref (ks (S p)), .int (nI wl)] by rw [r7]) (And.intro ⟨hpp.2.2.2.2.2.2.2.2.1, r9⟩ ?_))
  rintro v I1 J1 Q1 ⟨rfl, rfl, rfl, hgr⟩
  have hgr : grown 12 I I1 (C (S p)) wl := hgr
  have hk12 : ∀ k, 60 ≤ k → I1 k = I k := fun k hk => hgr.1 k (by omega)
  have hpp' := pnc_of hpp (hk12 _ hpp.2.1) (hk12 _ (ob7_big hpp.2.2.2.2.2.2.2.2.1.1))
  have hqq' := pnc_of hqq (hk12 _ hqq.2.1) (hk12 _ (ob7_big hqq.2.2.2.2.2.2.2.2.1.1))
  have hsp := hpp.2.2.2.2.2.2.2.2
  have hsq := hqq.2.2.2.2.2.2.2.2
  have hni := nearB_iff (c1 := C (S p)) (c2 := C (S q)) (w2 := W (S q)) (h2 := H (S q)) (g := wl) (dx := (X q : Int) - X p) (dy := (Y q : Int) - Y p) hsp.1.2.2 hsq.1.2.2 hsq.2.2.2.1 hsq.2.2.2.2.2.1 hsq.2.2.2.2.2.2.2 r9
  refine Exists.intro ((kp p, Kd p, S p, X p, Y p, T p, ks (S p), C (S p), W (S p), H (S p)), (kp q, Kd q, S q, X q, Y q, T q, ks (S q), C (S q), W (S q), H (S q)), wl) (And.intro rfl (And.intro ⟨hpp', hqq', r9, hgr.2⟩ ?_))
  refine bI_cases' (!nearB (grN (C (S p)) wl) (C (S q)) (W (S q)) (H (S q)) ((X q : Int) - X p) ((Y q : Int) - Y p)) (fun hn => ?_) (fun hn => ?_)
  · refine ht I1 hgr.1 (Or.inr ⟨rm2, rm, fun hcl => ?_⟩)
    rw [hni.mpr hcl] at hn
    cases hn
  · refine hf I1 hgr.1 ?_
    rintro (e | ⟨_, _, e⟩)
    · exact c' e
    · cases hb : nearB (grN (C (S p)) wl) (C (S q)) (W (S q)) (H (S q)) ((X q : Int) - X p) ((Y q : Int) - Y p) with
      | true => exact e (hni.mp hb)
      | false => rw [hb] at hn; cases hn
