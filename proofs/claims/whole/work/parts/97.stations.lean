/-! stations, station, force, peak -/
theorem pln_one {m K K' : Nat} {B F f f' : Nat → Nat} (h : plnP m B F K f) (h' : plnP m B F K' f') : K = K' ∧ ∀ p, p < m → f p = f' p := by
  have e : K = K' := Nat.le_antisymm (h.2.2 K' f' h'.1) (h'.2.2 K f h.1)
  subst e
  refine ⟨rfl, ?_⟩
  have hl := h.2.1 f' h'.1
  have hl' := h'.2.1 f h.1
  have : ∀ r, r ≤ m → ∀ p, p < r → f p = f' p := by
    intro r
    induction r with
    | zero => intro _ p hp; omega
    | succ r ih =>
      intro hr p hp
      have ih := ih (by omega)
      by_cases e : p = r
      · subst e
        exact Nat.le_antisymm (hl p (by omega) (fun q hq => (ih q hq).symm)) (hl' p (by omega) (fun q hq => ih q hq))
      · exact ih p (by omega)
  exact this m (Nat.le_refl _)
theorem smS_one {f f' sh : Nat → Nat} {st : Nat} : ∀ m, (∀ p, p < m → f p = f' p) → smS f sh st m = smS f' sh st m
  | 0, _ => rfl
  | m + 1, h => by
    show (if f m = st then smS f sh st m + sh m else smS f sh st m) = (if f' m = st then smS f' sh st m + sh m else smS f' sh st m)
    rw [smS_one m (fun p hp => h p (by omega)), h m (by omega)]
theorem fsl_one {f f' w : Nat → Nat} {st : Nat} : ∀ m, (∀ p, p < m → f p = f' p) → fsl f w st m = fsl f' w st m
  | 0, _ => rfl
  | m + 1, h => by
    show (if f m = st then fsl f w st m ++ [w m] else fsl f w st m) = (if f' m = st then fsl f' w st m ++ [w m] else fsl f' w st m)
    rw [fsl_one m (fun p hp => h p (by omega)), h m (by omega)]
/-- the class's plan was made anew -/
theorem rel_pln {a : hA} {I I' : hI} {J J' : hJ} {Q Q' : hQ} {n m wb mg wl : Nat} {ks C W H kp S X Y T Kd B : Nat → Nat} (h : rel a I J Q n m wb mg wl ks C W H kp S X Y T Kd B) (f : fr I I' [12, 13, 14, 15, 18, 19, 20]) (fj : frJ J J' [13, 16, 17]) (fq : rfQ Q Q') (h0 : I' 13 0 = 1) (hp : plnOK I' J' m B (fun p => C (S p)) X Y wl) : rel a I' J' Q' n m wb mg wl ks C W H kp S X Y T Kd B := by
  obtain ⟨⟨a1, a2, a3, a4⟩, ⟨p1, p2, p3⟩, ⟨l1, l2, l3, l4⟩, ⟨⟨r1, r2, r3⟩, ⟨r4, r5, r6⟩, r7, r8, r9⟩, ⟨k1, k2⟩, s, -, mu⟩ := h
  have big : ∀ k, 60 ≤ k → I' k = I k := fun k hk => f k (by simp; omega)
  have bigJ : ∀ k, 60 ≤ k → J' k = J k := fun k hk => fj k (by simp; omega)
  have f0 : I' 0 = I 0 := f 0 (by decide)
  have f31 : I' 31 = I 31 := f 31 (by decide)
  refine ⟨⟨by rw [f0]; exact a1, by rw [f31]; exact a2, a3, fun t ht => ?_⟩, ⟨cpn_of3 p1 (by rw [f0]) big bigJ (fun k hk => fq.1 k (by omega)) (fq.1 2 (by decide)), by rw [f31]; exact p2, fun p hp => ?_⟩, ⟨fun p hp => ?_, fun p hp => ?_, l3, by rw [f31]; exact l4⟩, ⟨⟨by rw [f0]; exact r1, by rw [f 37 (by decide)]; exact r2, r3⟩, ⟨by rw [f0]; exact r4, by rw [f 37 (by decide)]; exact r5, r6⟩, by rw [f0]; exact r7, by rw [f 37 (by decide)]; exact r8, r9⟩, ⟨fun s t h1 h2 => ?_, fun s t h1 h2 h3 => ?_⟩, fun b hb => ?_, ⟨fq.2.2, Or.inr ⟨h0, hp⟩⟩, fun p h1 h2 => ?_⟩
  · obtain ⟨q1, q2, q3, q4⟩ := a4 t ht
    have := ob7_big q2.1.1
    exact ⟨by rw [fq.1 1 (by decide)]; exact q1, shw_of3 q2 (big _ this) (bigJ _ this), rsh_of3 q3 (f 32 (by decide)) (f 33 (by decide)) (f 34 (by decide)), q4⟩
  · rw [f 44 (by decide), f 45 (by decide), f 46 (by decide), f 47 (by decide), f 48 (by decide)]
    exact p3 p hp
  · rw [f 5 (by decide)]; exact l1 p hp
  · rw [f 49 (by decide)]; exact l2 p hp
  · rw [f 7 (by decide)]; exact k1 s t h1 h2
  · rw [f 7 (by decide)]; exact k2 s t h1 h2 h3
  · have s0 : 23 ≤ shK b ∧ shK b + 1 < 31 := by unfold shK; omega
    exact rSb_i (s b hb) (f _ (by simp; omega)) (f _ (by simp; omega)) (f 38 (by decide)) (f 39 (by decide)) (f 40 (by decide))
  · rw [fj 10 (by decide)]; exact mu p h1 h2
/-- what the class's plan rests on -/
theorem rel_cPl {a : hA} {I : hI} {J : hJ} {Q : hQ} {n m wb mg wl : Nat} {ks C W H kp S X Y T Kd B : Nat → Nat} (h : rel a I J Q n m wb mg wl ks C W H kp S X Y T Kd B) : cPl a I J Q m wl B ((kp, (fun p => ks (S p)), S, X, Y), (fun p => C (S p)), T, Kd, (fun p => W (S p)), (fun p => H (S p))) := ⟨h.2.1.1, h.2.2.1.1, h.2.2.1.2.2.1, ⟨h.2.2.2.1.2.2.1, h.2.2.2.1.2.2.2.2⟩, h.2.2.2.2.2.2.1.1, h.2.2.2.2.2.2.1.2⟩
/-- what the reference's plan and forces rest on -/
theorem rel_rAll {a : hA} {I : hI} {J : hJ} {Q : hQ} {n m wb mg wl : Nat} {ks C W H kp S X Y T Kd B F : Nat → Nat} (h : rel a I J Q n m wb mg wl ks C W H kp S X Y T Kd B) (hF : fitP F m (fun p => C (S p)) X Y wl) : rAll I m wl B S X Y (fun p => C (S p)) F T Kd (fun p => W (S p)) (fun p => H (S p)) := by
  refine ⟨⟨rel_plR h, h.2.2.1.2.2.1.2.1, h.2.2.1.2.2.1.2.2, hF⟩, fun p hp => ?_, fun p hp => ?_⟩
  · obtain ⟨q1, q2, q3, q4, q5, q6, q7, q8, q9⟩ := (h.2.1.1.2.2 p hp).2
    obtain ⟨s1, s2, s3, s4, s5, s6⟩ := h.2.1.2.2 p hp
    exact ⟨⟨s2, q3.2⟩, s6, q7.2.2⟩
  · obtain ⟨s1, s2, s3, s4, s5, s6⟩ := h.2.1.2.2 p hp
    obtain ⟨b1, b2, b3, b4, b5, b6, b7, b8⟩ := (h.1.2.2.2 (S p) s1).2.2.1
    exact ⟨⟨b4, b7.2⟩, b5, b8.2⟩
/-- the reference made its plan -/
theorem rel_pfr {a : hA} {I I' : hI} {J : hJ} {Q : hQ} {n m wb mg wl : Nat} {ks C W H kp S X Y T Kd B : Nat → Nat} (h : rel a I J Q n m wb mg wl ks C W H kp S X Y T Kd B) (f : pfr I I') : rel a I' J Q n m wb mg wl ks C W H kp S X Y T Kd B := rel_fr h ⟨fun k k1 k2 k3 => f.1 k (by simp at k3 ⊢; omega), fun j _ _ => by rw [f.1 0 (by decide)], fun j hj => f.2 j (by omega)⟩ (frJ_refl _ _)
abbrev i_stations : ev := (1, 9, false, 0, 0, inl false 0 0 [e_refresh] false false kX9_stations 1)
theorem c_stations {l : Launch} : CX l cdX9_stations i_stations := cm_inl RX9 edX9_stations [e_refresh] false false kX9_stations cwX9_stations okX9_stations ⟨⟨_, rfl, c_refresh⟩, trivial⟩ (by decide) rfl (fun h => Bool.noConfusion h)
abbrev i_rstations : ev := (1, 10, false, 0, 0, inl false 0 0 [e_mkPlan] false false kX10_stations 1)
theorem c_rstations {l : Launch} : CX l cdX10_stations i_rstations := cm_inl RX10 edX10_stations [e_mkPlan] false false kX10_stations cwX10_stations okX10_stations ⟨⟨_, rfl, c_mkPlan⟩, trivial⟩ (by decide) rfl (fun h => Bool.noConfusion h)
abbrev i_station : ev := (2, 9, false, 0, 0, inl false 0 0 [i_isPunch, e_refresh, e_stOf] false false kX9_station 2)
theorem c_station {l : Launch} : CX l cdX9_station i_station := cm_inl RX9 edX9_station [i_isPunch, e_refresh, e_stOf] false false kX9_station cwX9_station okX9_station ⟨⟨_, rfl, c_isPunch9⟩, ⟨_, rfl, c_refresh⟩, ⟨_, rfl, c_stOf⟩, trivial⟩ (by decide) rfl (fun h => Bool.noConfusion h)
abbrev i_rstation : ev := (2, 10, false, 0, 0, inl false 0 0 [e_risPunch, e_mkPlan] false false kX10_station 2)
theorem c_rstation {l : Launch} : CX l cdX10_station i_rstation := cm_inl RX10 edX10_station [e_risPunch, e_mkPlan] false false kX10_station cwX10_station okX10_station ⟨⟨_, rfl, c_risPunch⟩, ⟨_, rfl, c_mkPlan⟩, trivial⟩ (by decide) rfl (fun h => Bool.noConfusion h)
theorem frw {I I' : hI} (f : fr I I' [12, 13, 14, 15]) : fr I I' [12, 13, 14, 15, 18, 19, 20] := fun k hk => f k (by simp at hk ⊢; omega)
theorem mpf {I I' : hI} {m : Nat} {B F : Nat → Nat} (h : mpPost I I' m B F) : pfr I I' := ⟨fun k hk => h.1 k (by simp at hk ⊢; omega), h.2.1⟩
theorem rT_fr {I I' I2 : hI} (h : rT I) (f : fr I I' [12, 13, 14, 15, 18, 19, 20]) (g : pfr I' I2) : rT I2 := ⟨by rw [g.1 0 (by decide), g.2 1 (by decide), f 0 (by decide), f 31 (by decide)]; exact h.1, by rw [g.1 0 (by decide), g.2 0 (by decide), f 0 (by decide), f 31 (by decide)]; exact h.2⟩
set_option maxRecDepth 20000 in
theorem o_stations : opI i_stations i_rstations [.ref 0] [.ref 31] := by
  intro a I J Q h
  obtain ⟨ha, hT, n, m, wb, mg, wl, ks, C, W, H, kp, S, X, Y, T, Kd, B, hr⟩ := h
  refine Exists.intro (m, wl, B, (kp, (fun p => ks (S p)), S, X, Y), (fun p => C (S p)), T, Kd, (fun p => W (S p)), (fun p => H (S p))) (And.intro rfl (And.intro (rel_cPl hr) ?_))
  rintro v I1 J1 Q1 ⟨rfl, f1, f2, f3, f4, f5⟩
  have f5 : plnOK I1 J1 m B (fun p => C (S p)) X Y wl := f5
  have hr1 := rel_pln hr (frw f1) f2 f3 f4 f5
  obtain ⟨F, K, f, g1, g2, g3, g4, g5, g6⟩ := f5
  refine And.intro ha ?_
  refine Exists.intro ((m, wl), B, S, X, Y, (fun p => C (S p)), F) (And.intro rfl (And.intro (rel_rAll hr1 g1).1 ?_))
  rintro v I2 J2 Q2 ⟨rfl, rfl, rfl, hm⟩
  have hm : mpPost I1 I2 m B F := hm
  obtain ⟨K', f', y1, y2, y3, y4⟩ := hm.2.2
  refine And.intro (Exists.intro (I1 13 1) (And.intro rfl ?_)) ⟨ha, rT_fr hT (frw f1) (mpf hm), n, m, wb, mg, wl, ks, C, W, H, kp, S, X, Y, T, Kd, B, rel_pfr hr1 (mpf hm)⟩
  show some (Value.int (I2 31 30)) = some (.int (I1 13 1))
  rw [g4, y2, (pln_one g2 y4).1]
set_option maxRecDepth 20000 in
theorem o_station (x : Int32) : opI i_station i_rstation [.ref 0, .int x] [.ref 31, .int x] := by
  intro a I J Q h
  obtain ⟨ha, hT, n, m, wb, mg, wl, ks, C, W, H, kp, S, X, Y, T, Kd, B, hr⟩ := id h
  have p1 := hr.2.1.1.1
  have p2 := hr.2.1.1.2.1
  have p4 := hr.2.1.2.1
  refine zz_isP p1 p2 (bI_cases (bw x (nI m)) (fun r1 => ?_) (fun r1 => ?_))
  · obtain ⟨p, hp, rfl⟩ := bw_nat (by omega) r1
    refine Exists.intro (m, wl, B, (kp, (fun p => ks (S p)), S, X, Y), (fun p => C (S p)), T, Kd, (fun p => W (S p)), (fun p => H (S p))) (And.intro rfl (And.intro (rel_cPl hr) ?_))
    rintro v I1 J1 Q1 ⟨rfl, f1, f2, f3, f4, f5⟩
    have f5 : plnOK I1 J1 m B (fun p => C (S p)) X Y wl := f5
    have hr1 := rel_pln hr (frw f1) f2 f3 f4 f5
    obtain ⟨F, K, f, g1, g2, g3, g4, g5, g6⟩ := f5
    have hf16 : ∀ p, p < m → f p < 16 := fun p hp => by
      have := g2.1.1 p hp
      omega
    refine Exists.intro (p, m, K, f) (And.intro rfl (And.intro ⟨hp, p2, hf16, g5, g6⟩ ?_))
    refine And.intro ha ?_
    have p4' := hr1.2.1.2.1
    refine Exists.intro (nI p) (And.intro rfl (And.intro trivial (bI_cases (bw (nI p) (I1 31 19)) (fun _ => ?_) (fun r => by rw [p4', r1] at r; cases r))))
    refine Exists.intro ((m, wl), B, S, X, Y, (fun p => C (S p)), F) (And.intro rfl (And.intro (rel_rAll hr1 g1).1 ?_))
    rintro v I2 J2 Q2 ⟨rfl, rfl, rfl, hm⟩
    have hm : mpPost I1 I2 m B F := hm
    obtain ⟨K', f', y1, y2, y3, y4⟩ := hm.2.2
    refine And.intro (show vp_in (nI p) 10 from vp_in_nI (by omega) (by decide)) ?_
    refine And.intro (Exists.intro (nI (f p)) (And.intro rfl ?_)) ⟨ha, rT_fr hT (frw f1) (mpf hm), n, m, wb, mg, wl, ks, C, W, H, kp, S, X, Y, T, Kd, B, rel_pfr hr1 (mpf hm)⟩
    show some (Value.int (I2 52 (nI p).toNatClampNeg)) = some (.int (nI (f p)))
    rw [nI_clamp (by omega), y3 p hp, (pln_one g2 y4).2 p hp]
  · refine And.intro ha (Exists.intro x (And.intro rfl (And.intro trivial (bI_cases (bw x (I 31 19)) (fun r => by rw [p4, r1] at r; cases r) (fun _ => ?_)))))
    exact ⟨⟨_, rfl, rfl⟩, h⟩
theorem o_force (x y : Int32) : opL e_force9 e_rforce [.ref 0, .int x, .int y] [.ref 31, .int x, .int y] := by
  intro a I J Q h
  obtain ⟨ha, hT, n, m, wb, mg, wl, ks, C, W, H, kp, S, X, Y, T, Kd, B, hr⟩ := h
  refine Exists.intro ((x, y), m, wl, B, (kp, (fun p => ks (S p)), S, X, Y), (fun p => C (S p)), T, Kd, (fun p => W (S p)), (fun p => H (S p))) (And.intro rfl (And.intro (rel_cPl hr) ?_))
  rintro v I1 J1 Q1 ⟨f1, f2, f3, K, f, hpc, rfl⟩
  have hpc : plnC I1 J1 m B (fun p => C (S p)) X Y wl K f := hpc
  obtain ⟨g0, g3, g4, g5, g6, F, g1, g2⟩ := hpc
  have hr1 := rel_pln hr (frw f1) f2 f3 g0 ⟨F, K, f, g1, g2, g3, g4, g5, g6⟩
  refine And.intro ha ?_
  refine Exists.intro ((x, y), (m, wl), (B, S, X, Y, (fun p => C (S p)), F), T, Kd, (fun p => W (S p)), (fun p => H (S p))) (And.intro rfl (And.intro (rel_rAll hr1 g1) ?_))
  rintro v I2 J2 Q2 ⟨rfl, rfl, hpf, K', f', y1, y4, rfl⟩
  have y4 : plnP m B F K' f' := y4
  have hpf : pfr I1 I2 := hpf
  obtain ⟨rfl, ef⟩ := pln_one g2 y4
  refine And.intro (Exists.intro _ (And.intro rfl ?_)) ⟨ha, rT_fr hT (frw f1) hpf, n, m, wb, mg, wl, ks, C, W, H, kp, S, X, Y, T, Kd, B, rel_pfr hr1 hpf⟩
  have e : ∀ st what, smS f' (shrN (fun p => C (S p)) T Kd X Y (fun p => W (S p)) (fun p => H (S p)) what) st m = smS f (shrN (fun p => C (S p)) T Kd X Y (fun p => W (S p)) (fun p => H (S p)) what) st m := fun st what => (smS_one m ef).symm
  show some (Value.long (fcV K (fun st what => smS f' (shrN (fun p => C (S p)) T Kd X Y (fun p => W (S p)) (fun p => H (S p)) what) st m) x y)) = _
  simp only [e]
theorem lpN_one {l : List Nat} {s v w : Nat} (h : lpN l s v) (h' : lpN l s w) : v = w := Nat.le_antisymm (h.2 w h'.1) (h'.2 v h.1)
theorem o_peak (x y : Int32) : opI e_peak9 e_rpeak [.ref 0, .int x, .int y] [.ref 31, .int x, .int y] := by
  intro a I J Q h
  obtain ⟨ha, hT, n, m, wb, mg, wl, ks, C, W, H, kp, S, X, Y, T, Kd, B, hr⟩ := h
  refine Exists.intro ((x, y), m, wl, B, (kp, (fun p => ks (S p)), S, X, Y), (fun p => C (S p)), T, Kd, (fun p => W (S p)), (fun p => H (S p))) (And.intro rfl (And.intro (rel_cPl hr) ?_))
  rintro v I1 J1 Q1 ⟨f1, f2, f3, K, f, hpc, hk1⟩
  have hpc : plnC I1 J1 m B (fun p => C (S p)) X Y wl K f := hpc
  have hk1 : pkP K (fun st => fsl f (frc (fun p => C (S p)) T Kd) st m) x y v := hk1
  obtain ⟨g0, g3, g4, g5, g6, F, g1, g2⟩ := hpc
  have hr1 := rel_pln hr f1 f2 f3 g0 ⟨F, K, f, g1, g2, g3, g4, g5, g6⟩
  refine And.intro ha ?_
  refine Exists.intro ((x, y), (m, wl), (B, S, X, Y, (fun p => C (S p)), F), T, Kd, (fun p => W (S p)), (fun p => H (S p))) (And.intro rfl (And.intro (rel_rAll hr1 g1) ?_))
  rintro w I2 J2 Q2 ⟨rfl, rfl, hpf, K', f', y1, y4, hk2⟩
  have y4 : plnP m B F K' f' := y4
  have hk2 : pkP K' (fun st => fsl f' (frc (fun p => C (S p)) T Kd) st m) x y w := hk2
  have hpf : pfr I1 I2 := hpf
  obtain ⟨rfl, ef⟩ := pln_one g2 y4
  refine And.intro ?_ ⟨ha, rT_fr hT f1 hpf, n, m, wb, mg, wl, ks, C, W, H, kp, S, X, Y, T, Kd, B, rel_pfr hr1 hpf⟩
  cases c : wi x 0 (nI K - 1) with
  | false => exact ⟨_, hk1.1 c, hk2.1 c⟩
  | true =>
    cases c2 : wi y 1 4 with
    | false => exact ⟨_, hk1.2.1 c c2, hk2.2.1 c c2⟩
    | true =>
      obtain ⟨p, e1, e2⟩ := hk1.2.2 c c2
      obtain ⟨q, e3, e4⟩ := hk2.2.2 c c2
      have e4 : lpN (fsl f' (frc (fun p => C (S p)) T Kd) x.toNatClampNeg m) y.toNatClampNeg q := e4
      rw [← fsl_one m ef] at e4
      rw [lpN_one e4 e2] at e3
      exact ⟨_, e1, e3⟩
