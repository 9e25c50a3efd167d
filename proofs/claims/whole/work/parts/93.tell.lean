/-! tell -/
abbrev t0 (I : hI) (d : Int32) : hI := up2 I 0 14 (31 * I 0 14 + d)
abbrev t1 (I : hI) (d : Int32) : hI := up2 I 31 1 (31 * I 31 1 + d)
abbrev x_tt : Type := Nat × Nat × Nat
abbrev e_tt : x_tt → List Value := fun x => [.ref 0, .ref x.1]
theorem v_tt (n : Nat) (h : 2 ≤ n) (x : x_tt) : okv (e_tt x) ∧ (lvA (e_tt x)).length ≤ n := ⟨okv_ref (okv_ref okv_nil), h⟩
abbrev p_tt : x_tt → hA → hI → hJ → hQ → Prop := fun x a I J Q => isOb a x.1 6 ∧ qE qX Q x.1 5 = some x.2.1 ∧ shp a I J x.2.1 x.2.2
def i_cutT : ev := (2, 9, false, 0, 0, sn e_tt p_tt (fun x _ I J Q v I' J' Q' => v = some (.int (nI (popN x.2.2))) ∧ I' = t0 I 1 ∧ J' = J ∧ Q' = Q))
set_option maxRecDepth 20000 in
theorem c_cutT {l : Launch} : CX l cdX9_cutTells i_cutT := by
  refine cm_sn RX9 edX9_cutTells [i_leave, e_ccount] false kX9_cutTells cwX9_cutTells okX9_cutTells ⟨⟨_, rfl, c_leave⟩, ⟨_, rfl, c_ccount⟩, trivial⟩ (by decide) rfl (v_tt _ (by decide)) ?_
  intro um zm G Rt ⟨k, kf, c⟩ a I J Q cl hb hp hR
  obtain ⟨ho, hq, hs⟩ := hp
  have ho : isOb a k 6 := ho
  have hq : qE qX Q k 5 = some kf := hq
  have hs : shp a I J kf c := hs
  refine cl [] 50 0 _ _ _ _ _ _ ?_
  refine cko (isOb_ck ho) ?_
  rw [hq]
  refine vko hs.1 rfl ?_
  exact Exists.intro (kf, c) (And.intro rfl (And.intro hs (hR _ _ _ _ ⟨rfl, rfl, rfl, rfl⟩)))
def i_pilT : ev := (2, 9, false, 0, 0, sn e_tt p_tt (fun x _ I J Q v I' J' Q' => v = some (.int (100 + nI (popN x.2.2))) ∧ I' = t0 (t0 I 2) 1 ∧ J' = J ∧ Q' = Q))
set_option maxRecDepth 20000 in
theorem c_pilT {l : Launch} : CX l cdX9_pilotTells i_pilT := by
  refine cm_sn RX9 edX9_pilotTells [i_leave, i_cutT] false kX9_pilotTells cwX9_pilotTells okX9_pilotTells ⟨⟨_, rfl, c_leave⟩, ⟨_, rfl, c_cutT⟩, trivial⟩ (by decide) rfl (v_tt _ (by decide)) ?_
  intro um zm G Rt x a I J Q cl hb hp hR
  refine cl [] 50 0 _ _ _ _ _ _ ?_
  refine Exists.intro x (And.intro rfl (And.intro hp ?_))
  rintro v I1 J1 Q1 ⟨rfl, rfl, rfl, rfl⟩
  exact hR _ _ _ _ ⟨rfl, rfl, rfl, rfl⟩
def i_benT : ev := (2, 9, false, 0, 0, sn e_tt p_tt (fun x _ I J Q v I' J' Q' => v = some (.int (100 + nI (popN x.2.2) + nI (popN x.2.2))) ∧ I' = t0 (t0 (t0 (t0 I 3) 2) 1) 1 ∧ J' = J ∧ Q' = Q))
set_option maxRecDepth 20000 in
theorem c_benT {l : Launch} : CX l cdX9_bendTells i_benT := by
  refine cm_sn RX9 edX9_bendTells [i_leave, i_pilT, i_cutT] false kX9_bendTells cwX9_bendTells okX9_bendTells ⟨⟨_, rfl, c_leave⟩, ⟨_, rfl, c_pilT⟩, ⟨_, rfl, c_cutT⟩, trivial⟩ (by decide) rfl (v_tt _ (by decide)) ?_
  intro um zm G Rt x a I J Q cl hb hp hR
  refine cl [] 50 0 _ _ _ _ _ _ ?_
  refine Exists.intro x (And.intro rfl (And.intro hp ?_))
  rintro v I1 J1 Q1 ⟨rfl, rfl, rfl, rfl⟩
  refine Exists.intro x (And.intro rfl (And.intro hp ?_))
  rintro v I1 J1 Q1 ⟨rfl, rfl, rfl, rfl⟩
  exact hR _ _ _ _ ⟨rfl, rfl, rfl, rfl⟩
abbrev i_tell : ev := (2, 9, false, 0, 0, inl false 0 0 [i_punchAt, i_benT, i_pilT, i_cutT] false false kX9_tell 3)
theorem c_tell {l : Launch} : CX l cdX9_tell i_tell := cm_inl RX9 edX9_tell [i_punchAt, i_benT, i_pilT, i_cutT] false false kX9_tell cwX9_tell okX9_tell ⟨⟨_, rfl, c_punchAt⟩, ⟨_, rfl, c_benT⟩, ⟨_, rfl, c_pilT⟩, ⟨_, rfl, c_cutT⟩, trivial⟩ (by decide) rfl (fun h => Bool.noConfusion h)
abbrev i_rtell : ev := (2, 10, false, 0, 0, inl false 0 0 [e_risPunch, e_cellsOf, i_begins] false false kX10_tell 3)
theorem c_rtell {l : Launch} : CX l cdX10_tell i_rtell := cm_inl RX10 edX10_tell [e_risPunch, e_cellsOf, i_begins] false false kX10_tell cwX10_tell okX10_tell ⟨⟨_, rfl, c_risPunch⟩, ⟨_, rfl, c_cellsOf⟩, ⟨_, rfl, c_begins⟩, trivial⟩ (by decide) rfl (fun h => Bool.noConfusion h)
set_option maxRecDepth 20000 in
theorem zz_rtell {x : Int32} {m : Nat} {a : hA} {I : hI} {J : hJ} {Q : hQ} {K : hR} (h19 : I 31 19 = nI m) (hm : m ≤ 10) (h0 : bw x (nI m) = false → K (some (.int (-1))) a I J Q) (h1 : ∀ p, p < m → x = nI p → ∃ s c kd, I 45 p = nI s ∧ s < 12 ∧ rwA I 32 (8 * s) c ∧ I 44 p = nI kd ∧ (nI kd = 1 → K (some (.int (100 + nI (popN c)))) a (t1 (t1 I 2) 1) J Q) ∧ (nI kd = 2 → K (some (.int (100 + 2 * nI (popN c)))) a (t1 (t1 (t1 (t1 I 3) 2) 1) 1) J Q) ∧ (¬ nI kd = 1 → ¬ nI kd = 2 → K (some (.int (nI (popN c)))) a (t1 I 1) J Q)) : i_rtell.2.2.2.2.2 [.ref 31, .int x] a I J Q K := by
  refine Exists.intro x (And.intro rfl (And.intro trivial (bI_cases (bw x (I 31 19)) (fun r => ?_) (fun r => h0 (by rw [h19] at r; exact r)))))
  rw [h19] at r
  obtain ⟨p, hp, rfl⟩ := bw_nat (by omega) r
  obtain ⟨s, c, kd, e1, e2, e3, e4, g1, g2, g3⟩ := h1 p hp rfl
  have ecp : (nI p).toNatClampNeg = p := nI_clamp (by omega)
  have hin : vp_in (nI p) 10 := vp_in_nI (by omega) (by decide)
  refine And.intro hin ?_
  refine Exists.intro (s, c) (And.intro (show [Value.ref 31, .int (I 45 (nI p).toNatClampNeg)] = [.ref 31, .int (nI s)] by rw [ecp, e1]) (And.intro ⟨e2, e3⟩ ?_))
  refine And.intro hin ?_
  refine And.intro (fun (c : I 44 (nI p).toNatClampNeg = 1) => ?_) (fun (c1 : ¬ I 44 (nI p).toNatClampNeg = 1) => And.intro (fun (c : I 44 (nI p).toNatClampNeg = 2) => ?_) (fun (c : ¬ I 44 (nI p).toNatClampNeg = 2) => ?_))
  · rw [ecp, e4] at c
    exact g1 c
  · rw [ecp, e4] at c
    exact g2 c
  · rw [ecp, e4] at c c1
    exact g3 c1 c
/-- the trace is written, on both sides, as often as you like -/
theorem tr_relG {a : hA} {I I' : hI} {J : hJ} {Q : hQ} (h : relE a I J Q) (h1 : ∀ k, k ≠ 0 → k ≠ 31 → I' k = I k) (h2 : ∀ j, j ≠ 14 → I' 0 j = I 0 j) (h3 : ∀ j, j ≠ 1 → I' 31 j = I 31 j) (h4 : I' 0 14 = I' 31 1) : relE a I' J Q := relE_fr h ⟨fun k a1 a2 _ => h1 k a1 a2, fun j b1 _ => h2 j b1, fun j hj => h3 j (by omega)⟩ (frJ_refl _ _) ⟨h4, by rw [h2 15 (by decide), h3 0 (by decide)]; exact h.2.1.2⟩
set_option maxRecDepth 20000 in
theorem o_tell (x : Int32) : opI i_tell i_rtell [.ref 0, .int x] [.ref 31, .int x] := by
  intro a I J Q h
  obtain ⟨ha, hT, n, m, wb, mg, wl, ks, C, W, H, kp, S, X, Y, T, Kd, B, hA, hP, -⟩ := id h
  obtain ⟨⟨p1, p2, p3⟩, p4, p5⟩ := id hP
  have hT1 := hT.1
  have n31 : (31 : Nat) ≠ 0 := by decide
  have n0 : (0 : Nat) ≠ 31 := by decide
  have e4 : (4 : Nat) ≠ 1 := by decide
  refine zz_pAt p1 p2 (fun p hp => (p3 p hp).1) (fun r => ?_) (fun p hp hx => ?_)
  · refine And.intro ha (zz_rtell p4 p2 (fun _ => ⟨⟨_, rfl, rfl⟩, h⟩) (fun p hp hx => ?_))
    rw [hx, bw_of (by omega) hp] at r
    cases r
  · obtain ⟨q1, q2, q3, q4, q5, q6, q7, q8, q9⟩ := (p3 p hp).2
    obtain ⟨s1, s2, s3, s4, s5, s6⟩ := p5 p hp
    have hrw : rwA I 32 (8 * S p) (C (S p)) := (hA.2.2.2 (S p) s1).2.2.1.2.2.1
    have hq : qE qX Q (kp p) 5 = some (ks (S p)) := by rw [qE_big q2]; exact q8
    have hbw : bw x (nI m) = true := by rw [hx]; exact bw_of (by omega) hp
    have hpp : ∀ c, x = nI c → c < m → c = p := fun c hc hcm => by
      rw [hx] at hc
      exact ((nI_eq (by omega) (by omega)).mp hc).symm
    have key : ∀ I1 : hI, (∀ k, k ≠ 0 → I1 k = I k) → ∀ v, ((nI (Kd p) = 1 → v = 100 + nI (popN (C (S p))) ∧ relE a (t1 (t1 I1 2) 1) J Q) ∧ (nI (Kd p) = 2 → v = 100 + 2 * nI (popN (C (S p))) ∧ relE a (t1 (t1 (t1 (t1 I1 3) 2) 1) 1) J Q) ∧ (¬ nI (Kd p) = 1 → ¬ nI (Kd p) = 2 → v = nI (popN (C (S p))) ∧ relE a (t1 I1 1) J Q)) → (60 ≤ a.1 ∧ i_rtell.2.2.2.2.2 [.ref 31, .int x] a I1 J Q (fun w a2 I2 J2 Q2 => (∃ x, some (Value.int v) = some (.int x) ∧ w = some (.int x)) ∧ relE a2 I2 J2 Q2)) := fun I1 h1 v hv => by
      refine And.intro ha (zz_rtell (m := m) (by rw [h1 31 (by decide)]; exact p4) p2 (fun r => by rw [hbw] at r; cases r) (fun c hc hxc => ?_))
      obtain rfl := hpp c hxc hc
      refine ⟨S c, C (S c), Kd c, by rw [h1 45 (by decide)]; exact s3, q4.2, fun y hy => by rw [h1 32 (by decide)]; exact hrw y hy, by rw [h1 44 (by decide)]; exact s2, fun k => ?_, fun k => ?_, fun k1 k2 => ?_⟩
      · obtain ⟨rfl, z⟩ := hv.1 k
        exact ⟨⟨_, rfl, rfl⟩, z⟩
      · obtain ⟨rfl, z⟩ := hv.2.1 k
        exact ⟨⟨_, rfl, rfl⟩, z⟩
      · obtain ⟨rfl, z⟩ := hv.2.2 k1 k2
        exact ⟨⟨_, rfl, rfl⟩, z⟩
    refine cko (isOb_ck q1) ?_
    refine And.intro (fun (c : I (kp p) 0 = 1) => ?_) (fun (c1 : ¬ I (kp p) 0 = 1) => And.intro (fun (c : I (kp p) 0 = 2) => ?_) (fun (c : ¬ I (kp p) 0 = 2) => ?_))
    · rw [q3.1] at c
      refine Exists.intro (kp p, ks (S p), C (S p)) (And.intro rfl (And.intro ⟨q1, hq, q9.1⟩ ?_))
      rintro v I1 J1 Q1 ⟨rfl, rfl, rfl, rfl⟩
      refine key _ (fun k hk => by simp only [t0, up2_ne hk]) _ ⟨fun _ => ⟨rfl, ?_⟩, fun k => by (rw [c] at k; exact absurd k (by decide)), fun k => absurd c k⟩
      exact tr_relG h (fun k a1 a2 => by simp only [t0, t1, up2_ne a2, up2_ne a1]) (fun j hj => by simp only [t0, t1, up2_ne n0, up2_nej hj]) (fun j hj => by simp only [t0, t1, up2_ne n31, up2_nej hj]) (by simp only [t0, t1, up2_at, up2_ne n0, up2_ne n31, hT1])
    · rw [q3.1] at c
      refine Exists.intro (kp p, ks (S p), C (S p)) (And.intro rfl (And.intro ⟨q1, hq, q9.1⟩ ?_))
      rintro v I1 J1 Q1 ⟨rfl, rfl, rfl, rfl⟩
      refine key _ (fun k hk => by simp only [t0, up2_ne hk]) _ ⟨fun k => by (rw [c] at k; exact absurd k (by decide)), fun _ => ⟨?_, ?_⟩, fun _ k => absurd c k⟩
      · show (100 : Int32) + nI (popN (C (S p))) + nI (popN (C (S p))) = 100 + 2 * nI (popN (C (S p)))
        rw [show (100 : Int32) = nI 100 from rfl, show (2 : Int32) = nI 2 from rfl, pk_mul, nI_add, nI_add, nI_add]
        exact congrArg nI (by omega)
      · exact tr_relG h (fun k a1 a2 => by simp only [t0, t1, up2_ne a2, up2_ne a1]) (fun j hj => by simp only [t0, t1, up2_ne n0, up2_nej hj]) (fun j hj => by simp only [t0, t1, up2_ne n31, up2_nej hj]) (by simp only [t0, t1, up2_at, up2_ne n0, up2_ne n31, hT1])
    · rw [q3.1] at c c1
      refine Exists.intro (kp p, ks (S p), C (S p)) (And.intro rfl (And.intro ⟨q1, hq, q9.1⟩ ?_))
      rintro v I1 J1 Q1 ⟨rfl, rfl, rfl, rfl⟩
      refine key _ (fun k hk => by simp only [t0, up2_ne hk]) _ ⟨fun k => absurd k c1, fun k => absurd k c, fun _ _ => ⟨rfl, ?_⟩⟩
      exact tr_relG h (fun k a1 a2 => by simp only [t0, t1, up2_ne a2, up2_ne a1]) (fun j hj => by simp only [t0, t1, up2_ne n0, up2_nej hj]) (fun j hj => by simp only [t0, t1, up2_ne n31, up2_nej hj]) (by simp only [t0, t1, up2_at, up2_ne n0, up2_ne n31, hT1])
