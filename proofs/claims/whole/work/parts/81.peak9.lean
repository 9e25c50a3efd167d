/-! the class's peak -/
def kX9_peak : List en := [(0, .aload_n 0, 1, 0, 0, 0, 0, []), (1, .invokevirtual 218, 3, 0, 0, 0, 0, [(0, 564), (0, 58), (0, 566), (0, 13)]), (4, .aload_n 0, 1, 0, 0, 0, 0, []), (5, .getfield 53, 3, 9, 6, 0, 0, [(0, 220)]), (8, .iload_n 1, 1, 0, 0, 0, 0, []), (9, .invokevirtual 227, 3, 1, 0, 0, 0, [(0, 612), (0, 62), (0, 613), (0, 614)]), (12, .ifCond .ne 5, 3, 17, 0, 0, 0, []), (15, .iconst (-1), 1, 0, 0, -1, 0, []), (16, .ireturn, 1, 0, 0, 0, 0, []), (17, .iload_n 2, 1, 0, 0, 0, 0, []), (18, .iconst 1, 1, 0, 0, 1, 0, []), (19, .iconst 4, 1, 0, 0, 4, 0, []), (20, .invokestatic 80, 3, 2, 0, 0, 0, [(0, 271), (0, 58), (0, 272)]), (23, .ifCond .ne 6, 3, 29, 0, 0, 0, []), (26, .bipush (-2), 2, 0, 0, -2, 0, []), (28, .ireturn, 1, 0, 0, 0, 0, []), (29, .aload_n 0, 1, 0, 0, 0, 0, []), (30, .getfield 60, 3, 9, 7, 0, 0, [(0, 221)]), (33, .invokevirtual 235, 3, 3, 0, 0, 0, [(0, 631), (0, 63), (0, 632), (0, 633)]), (36, .iconst 0, 1, 0, 0, 0, 0, []), (37, .istore_n 3, 1, 0, 0, 0, 0, []), (38, .iload_n 3, 1, 0, 0, 0, 0, []), (39, .aload_n 0, 1, 0, 0, 0, 0, []), (40, .getfield 174, 3, 9, 10, 0, 0, [(0, 224)]), (43, .if_icmp .ge 46, 3, 89, 0, 0, 0, []), (46, .aload_n 0, 1, 0, 0, 0, 0, []), (47, .getfield 19, 3, 9, 1, 0, 0, [(0, 215)]), (50, .iload_n 3, 1, 0, 0, 0, 0, []), (51, .aaload, 1, 0, 0, 0, 0, []), (52, .astore 4, 2, 0, 0, 0, 0, []), (54, .aload 4, 2, 0, 0, 0, 0, []), (56, .ifnull 27, 3, 83, 0, 0, 0, []), (59, .aload_n 0, 1, 0, 0, 0, 0, []), (60, .getfield 53, 3, 9, 6, 0, 0, [(0, 220)]), (63, .iload_n 3, 1, 0, 0, 0, 0, []), (64, .invokevirtual 224, 3, 4, 0, 0, 0, [(0, 604), (0, 62), (0, 605), (0, 606)]), (67, .iload_n 1, 1, 0, 0, 0, 0, []), (68, .if_icmp .ne 15, 3, 83, 0, 0, 0, []), (71, .aload_n 0, 1, 0, 0, 0, 0, []), (72, .getfield 60, 3, 9, 7, 0, 0, [(0, 221)]), (75, .aload 4, 2, 0, 0, 0, 0, []), (77, .invokevirtual 238, 3, 5, 0, 0, 0, [(0, 635), (0, 70), (0, 623), (0, 624)]), (80, .invokevirtual 241, 3, 6, 0, 0, 0, [(0, 636), (0, 63), (0, 637), (0, 638)]), (83, .iinc 3 1, 3, 0, 0, 1, 0, []), (86, .goto (-48), 3, 38, 0, 0, 0, []), (89, .aload_n 0, 1, 0, 0, 0, 0, []), (90, .getfield 60, 3, 9, 7, 0, 0, [(0, 221)]), (93, .iload_n 2, 1, 0, 0, 0, 0, []), (94, .invokevirtual 245, 3, 7, 0, 0, 0, [(0, 640), (0, 63), (0, 641), (0, 642)]), (97, .ireturn, 1, 0, 0, 0, 0, [])]
def cdX9_peak : cdT := (yX9_peak, cX9_peak, 5, (some .int), 16)
def edX9_peak : List edT := [(cdX9_refreshPlan, 1, 9), (cdX4_hasStation, 2, 4), (cdX9_isWithin, 3, 99), (cdX5_clear, 1, 5), (cdX4_stationOf, 2, 4), (cdX6_strength, 1, 6), (cdX5_add, 2, 5), (cdX5_leastPeak, 2, 5)]
set_option maxRecDepth 100000 in
theorem cwX9_peak : Cond.code cdX9_peak.1 cdX9_peak.2.1 cdX9_peak.2.2.1 cdX9_peak.2.2.2.1 ∈ lw_g := List.mem_filter.mpr ⟨List.mem_of_getElem? (i := 630) rfl, rfl⟩
set_option maxRecDepth 100000 in
theorem okX9_peak : okL RX9 cdX9_peak.2.1 edX9_peak cdX9_peak.2.2.2.2 cdX9_peak.2.2.2.1 false kX9_peak = true := by decide +kernel
abbrev i_prclear : ev := (1, 5, false, 0, 0, inl false 0 0 [] false false kX5_clear 1)
theorem c_prclear {l : Launch} : CX l cdX5_clear i_prclear := cm_inl RX5 edX5_clear [] false false kX5_clear cwX5_clear okX5_clear trivial (by decide) rfl (fun h => Bool.noConfusion h)
theorem lpN_perm {l l' : List Nat} {s v : Nat} (h : l.Perm l') (hp : lpN l s v) : lpN l' s v := ⟨canL_perm h _ hp.1, fun w hw => hp.2 w (canL_perm h.symm _ hw)⟩
def e_peak9 : ev := (3, 9, false, 0, 0, sn e_f9 (fun x a I J Q => cPl a I J Q x.2.1 x.2.2.1 x.2.2.2.1 x.2.2.2.2) (fun x _ I J Q v I' J' Q' => fr I I' [12, 13, 14, 15, 18, 19, 20] ∧ frJ J J' [13, 16, 17] ∧ rfQ Q Q' ∧ ∃ K f, plnC I' J' x.2.1 x.2.2.2.1 x.2.2.2.2.2.1 x.2.2.2.2.1.2.2.2.1 x.2.2.2.2.1.2.2.2.2 x.2.2.1 K f ∧ pkP K (fun st => fsl f (frc x.2.2.2.2.2.1 x.2.2.2.2.2.2.1 x.2.2.2.2.2.2.2.1) st x.2.1) x.1.1 x.1.2 v))
set_option maxRecDepth 20000 in
theorem c_peak9 {l : Launch} : CX l cdX9_peak e_peak9 := by
  refine cm_sn RX9 edX9_peak [e_refresh, i_hasSt, e_within, i_prclear, e_stOf, e_strength, e_padd, e_least] false kX9_peak cwX9_peak okX9_peak ⟨⟨_, rfl, c_refresh⟩, ⟨_, rfl, c_hasSt⟩, ⟨_, rfl, c_within⟩, ⟨_, rfl, c_prclear⟩, ⟨_, rfl, c_stOf⟩, ⟨_, rfl, c_strength⟩, ⟨_, rfl, c_padd⟩, ⟨_, rfl, c_least⟩, trivial⟩ (by decide) rfl (v_f9 _ (by decide)) ?_
  intro um zm G Rt ⟨⟨ST, SS⟩, m, g, B, ⟨kp, kf, S, X, Y⟩, C, T, Kd, Wd, Hd⟩ a I J Q cl hb hp hR
  have hp : cPl a I J Q m g B ((kp, kf, S, X, Y), C, T, Kd, Wd, Hd) := hp
  have hR : ∀ v I' J' Q', (fr I I' [12, 13, 14, 15, 18, 19, 20] ∧ frJ J J' [13, 16, 17] ∧ rfQ Q Q' ∧ ∃ K f, plnC I' J' m B C X Y g K f ∧ pkP K (fun st => fsl f (frc C T Kd) st m) ST SS v) → Rt v a I' J' Q' := hR
  refine cl [17, 29, 38, 83] 90 0 _ _ _ _ _ _ ?_
  refine Exists.intro (m, g, B, (kp, kf, S, X, Y), C, T, Kd, Wd, Hd) (And.intro rfl (And.intro hp ?_))
  rintro v I2 J2 Q2 ⟨rfl, hf, hfJ, hrQ, h130, F, K, f, hfit, hpn, hK, hI1, hI7, hJ6⟩
  have hc : cpn a I J Q m kp kf S X Y C T Kd Wd Hd := hp.1
  have hc2 := cpn_rf hc hf hfJ hrQ
  have hf : fr I I2 [12, 13, 14, 15] := hf
  have hf' : fr I I2 [12, 13, 14, 15, 18, 19, 20] := fun k hk => hf k (fun h => hk (by simp at h ⊢; omega))
  have hK : K ≤ m := hK
  have hpn : plnP m B F K f := hpn
  have hI1 : I2 13 1 = nI K := hI1
  have hI7 : I2 13 7 = nI m := hI7
  have hJ6 : J2 13 6 = lN (rowV f m) := hJ6
  have hpc : ∀ I3 : hI, I3 13 = I2 13 → plnC I3 J2 m B C X Y g K f := fun I3 h => ⟨by rw [h]; exact h130, hK, by rw [h]; exact hI1, by rw [h]; exact hI7, hJ6, F, hfit, hpn⟩
  obtain ⟨h10, hm, hall⟩ := id hc2
  have e30 : I2 13 1 - 1 = nI K - 1 := by rw [hI1]
  refine Exists.intro (ST, 0, nI K - 1) (And.intro (show [Value.int ST, .int 0, .int (I2 13 1 - 1)] = [Value.int ST, .int 0, .int (nI K - 1)] by rw [e30]) (And.intro trivial ?_))
  refine And.intro (bI_01 _) ?_
  refine bI_cases (wi ST 0 (nI K - 1)) (fun r1 => ?_) (fun r1 => hR _ _ _ _ ⟨hf', hfJ, hrQ, K, f, hpc I2 rfl, fun _ => rfl, fun h => by (rw [h] at r1; cases r1), fun h => by (rw [h] at r1; cases r1)⟩)
  refine cl [29, 38, 83] 90 17 _ _ _ _ _ _ ?_
  refine Exists.intro (SS, 1, 4) (And.intro rfl (And.intro trivial ?_))
  refine bI_cases (wi SS 1 4) (fun r2 => ?_) (fun r2 => hR _ _ _ _ ⟨hf', hfJ, hrQ, K, f, hpc I2 rfl, fun h => by (rw [h] at r1; cases r1), fun _ _ => rfl, fun _ h => by (rw [h] at r2; cases r2)⟩)
  have hans : ∀ p I', fr I2 I' [18, 19, 20] → lpN (fsl f (frc C T Kd) ST.toNatClampNeg m) SS.toNatClampNeg p → Rt (some (.int (nI p))) a I' J2 Q2 := fun p I' h1 h2 => hR _ _ _ _ ⟨fun k hk => by rw [h1 k (fun h => hk (by simp at h ⊢; omega))]; exact hf' k hk, hfJ, hrQ, K, f, hpc I' (h1 13 (by decide)), fun h => by (rw [h] at r1; cases r1), fun _ h => by (rw [h] at r2; cases r2), fun _ _ => ⟨p, rfl, h2⟩⟩
  obtain ⟨st, hst, rfl⟩ := wi_st (by omega) r1
  obtain ⟨s, hs1, hs4, rfl⟩ : ∃ s, 1 ≤ s ∧ s ≤ 4 ∧ SS = nI s := by
    unfold wi at r2
    rw [Bool.and_eq_true, decide_eq_true_iff, decide_eq_true_iff] at r2
    have hx0 : ¬ SS < 0 := Int32.not_lt.mpr (Int32.le_trans (show (0 : Int32) ≤ 1 by decide) r2.1)
    obtain ⟨j, hj, rfl⟩ := nI_of hx0
    exact ⟨j, (nI_leI (a := 1) (by decide) hj).mp r2.1, (nI_leI (b := 4) hj (by decide)).mp r2.2, rfl⟩
  rw [nI_clamp (by omega), nI_clamp (by omega)] at hans
  have hfp : ∀ p, p < m → f p < 16 := fun p hp => by have := hpn.1.1 p hp; omega
  have hne : fsl f (frc C T Kd) st m ≠ [] := by
    obtain ⟨q, q1, q2⟩ := val_ne hpn.1 hpn.2.2 st hst
    exact fsl_ne m q q1 q2
  have loop : ∀ d p (L : List Nat) (v4 : Option Value) (I' : hI), d + p = m → L.Perm (fsl f (frc C T Kd) st p) → prsOK I' L → fr I2 I' [18, 19, 20] → G 38 [some (.ref 0), some (.int (nI st)), some (.int (nI s)), some (.int (nI p)), v4] [] a I' J2 Q2 := by
    intro d
    induction d with
    | zero =>
      intro p L v4 I' hd hL hpr hfi
      obtain rfl : p = m := by omega
      refine cl [17, 29, 38, 83] 90 38 _ _ _ _ _ _ ?_
      refine And.intro (fun _ => ?_) (fun (h : ¬ I' 0 10 ≤ nI p) => absurd (by rw [hfi 0 (by decide), h10]; exact nI_le (Nat.le_refl _) (by omega)) h)
      refine Exists.intro (L, s) (And.intro rfl (And.intro ⟨hpr, fun e => hne (by have e : L = [] := e; subst e; exact hL.symm.eq_nil), hs1, hs4⟩ ?_))
      rintro v I3 J3 Q3 ⟨rfl, rfl, h3, pk, rfl, hpk, hlp⟩
      exact hans pk I3 (fun k hk => by
        simp only [List.mem_cons, List.not_mem_nil, not_or] at hk
        rw [h3 k hk.1 hk.2.2.1]
        exact hfi k (by simp only [List.mem_cons, List.not_mem_nil, not_or]; exact hk)) (lpN_perm hL hlp)
    | succ d ih =>
      intro p L v4 I' hd hL hpr hfi
      have hpm : p < m := by omega
      have hpq := hall p hpm
      have hqe : qE qX Q2 2 (nI p).toNatClampNeg = some (kp p) := by rw [nI_clamp (by omega)]; exact hpq.1
      have hkf : 60 ≤ kf p := ob7_big hpq.2.2.2.2.2.2.2.2.2.1.1
      have hbig : ∀ k, 60 ≤ k → I' k = I2 k := fun k hk => hfi k (by simp; omega)
      have hpn' := pnc_of hpq.2 (hbig _ hpq.2.2.1) (hbig _ hkf)
      have g83 : ∀ (L2 : List Nat) (v4 : Option Value) (I3 : hI), L2.Perm (fsl f (frc C T Kd) st (p + 1)) → prsOK I3 L2 → fr I2 I3 [18, 19, 20] → G 83 [some (.ref 0), some (.int (nI st)), some (.int (nI s)), some (.int (nI p)), v4] [] a I3 J2 Q2 := by
        intro L2 v4 I3 h1 h2 h3
        refine cl [17, 29, 38] 90 83 _ _ _ _ _ _ ?_
        have := ih (p + 1) L2 v4 I3 (by omega) h1 h2 h3
        rw [← nI_1 p] at this
        exact this
      refine cl [17, 29, 38, 83] 90 38 _ _ _ _ _ _ ?_
      refine And.intro (fun (h : I' 0 10 ≤ nI p) => absurd h (by rw [hfi 0 (by decide), h10]; exact nI_ge hpm (by omega))) (fun _ => And.intro (show vp_in (nI p) 10 from vp_in_nI (by omega) (by decide)) ?_)
      rw [hqe]
      refine Exists.intro (p, m, 0, f) (And.intro rfl (And.intro ⟨hpm, hm, hfp, (show I' 13 7 = nI m by rw [hfi 13 (by decide)]; exact hI7), hJ6⟩ ?_))
      refine And.intro (fun (h : ¬ nI (f p) = nI st) => ?_) (fun (h : nI (f p) = nI st) => ?_)
      · rw [nI_eq (by have := hfp p hpm; omega) (by omega)] at h
        exact g83 L _ I' (by rw [show fsl f (frc C T Kd) st (p + 1) = (if f p = st then _ else _) from rfl, if_neg h]; exact hL) hpr hfi
      · rw [nI_eq (by have := hfp p hpm; omega) (by omega)] at h
        refine vko hpq.2.1 rfl ?_
        refine Exists.intro (kp p, Kd p, S p, X p, Y p, T p, kf p, C p, Wd p, Hd p) (And.intro rfl (And.intro hpn' ?_))
        have hle : frc C T Kd p ≤ 5120 := frc_le hpn'.2.2.2.2.2.2.1.2.2
        have hlen : L.length ≤ p := by rw [hL.length_eq]; exact fsl_len f (frc C T Kd) st p
        refine Exists.intro (frc C T Kd p, L) (And.intro rfl (And.intro ⟨hpr, (show L.length < 10 by omega), (show frc C T Kd p ≤ 10000 by omega)⟩ ?_))
        rintro v I3 J3 Q3 ⟨rfl, rfl, rfl, h3, L2, hL2, hpr2⟩
        refine g83 L2 _ I3 ?_ hpr2 (fun k hk => ?_)
        · rw [show fsl f (frc C T Kd) st (p + 1) = (if f p = st then _ else _) from rfl, if_pos h]
          refine List.Perm.trans hL2 ?_
          refine List.Perm.trans (List.Perm.cons _ hL) ?_
          exact (List.perm_append_singleton _ _).symm
        · have hk2 := hk
          simp only [List.mem_cons, List.not_mem_nil, not_or] at hk2
          rw [h3 k hk2.1 hk2.2.1]
          exact hfi k hk
  refine cl [17, 38, 83] 90 29 _ _ _ _ _ _ ?_
  refine loop m 0 [] none _ (by omega) (List.Perm.refl _) ⟨?_, fun i hi => absurd hi (by simp), ?_, by decide, fun x hx => by cases hx⟩ ?_
  · exact (up2_nej (by decide)).trans up2_at
  · exact up2_at
  · exact fr_up (fr_up (fr_refl _ _) (by decide)) (by decide)
