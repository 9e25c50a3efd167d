/-! the class's force -/
theorem pnc_of3 {a : hA} {I I' : hI} {J J' : hJ} {Q Q' : hQ} {k kind s x y th kf c w h : Nat} (hp : pnc a I J Q k kind s x y th kf c w h) (h1 : I' k = I k) (h2 : I' kf = I kf) (h3 : J' kf = J kf) (h4 : Q' k = Q k) : pnc a I' J' Q' k kind s x y th kf c w h := by
  obtain ⟨a1, a2, a3, a4, a5, a6, a7, a8, a9⟩ := hp
  have h9 := shw_of a9 h2
  refine ⟨a1, a2, by rw [h1]; exact a3, by rw [h1]; exact a4, by rw [h1]; exact a5, by rw [h1]; exact a6, by rw [h1]; exact a7, by rw [h4]; exact a8, ⟨⟨h9.1.1, ?_⟩, h9.2⟩⟩
  rw [h3]
  exact h9.1.2
theorem cpn_of3 {a : hA} {I I' : hI} {J J' : hJ} {Q Q' : hQ} {m : Nat} {kp kf S X Y C T Kd Wd Hd : Nat → Nat} (h : cpn a I J Q m kp kf S X Y C T Kd Wd Hd) (h0 : I' 0 10 = I 0 10) (hk : ∀ k, 60 ≤ k → I' k = I k) (hj : ∀ k, 60 ≤ k → J' k = J k) (hq : ∀ k, 60 ≤ k → Q' k = Q k) (hq2 : Q' 2 = Q 2) : cpn a I' J' Q' m kp kf S X Y C T Kd Wd Hd := by
  refine ⟨by rw [h0]; exact h.1, h.2.1, fun p hp => ⟨by rw [hq2]; exact (h.2.2 p hp).1, ?_⟩⟩
  have := (h.2.2 p hp).2
  have hf : 60 ≤ kf p := ob7_big this.2.2.2.2.2.2.2.2.1.1
  exact pnc_of3 this (hk _ this.2.1) (hk _ hf) (hj _ hf) (hq _ this.2.1)
theorem cpn_rf {a : hA} {I I' : hI} {J J' : hJ} {Q Q' : hQ} {m : Nat} {kp kf S X Y C T Kd Wd Hd : Nat → Nat} (h : cpn a I J Q m kp kf S X Y C T Kd Wd Hd) (hI : fr I I' [12, 13, 14, 15]) (hJ : frJ J J' [13, 16, 17]) (hQ : rfQ Q Q') : cpn a I' J' Q' m kp kf S X Y C T Kd Wd Hd := cpn_of3 h (by rw [hI 0 (by decide)]) (fun k hk => hI k (by simp; omega)) (fun k hk => hJ k (by simp; omega)) (fun k hk => hQ.1 k (by omega)) (hQ.1 2 (by decide))
abbrev x_f9 : Type := (Int32 × Int32) × x_rf
abbrev e_f9 : x_f9 → List Value := fun x => [.ref 0, .int x.1.1, .int x.1.2]
theorem v_f9 (n : Nat) (h : 3 ≤ n) (x : x_f9) : okv (e_f9 x) ∧ (lvA (e_f9 x)).length ≤ n := ⟨okv_ref (okv_int (okv_int okv_nil)), h⟩
/-- the class's plan is fresh, of these K and f -/
def plnC (I : hI) (J : hJ) (m : Nat) (B C X Y : Nat → Nat) (g : Nat) (K : Nat) (f : Nat → Nat) : Prop := I 13 0 = 1 ∧ K ≤ m ∧ I 13 1 = nI K ∧ I 13 7 = nI m ∧ J 13 6 = lN (rowV f m) ∧ ∃ F, fitP F m C X Y g ∧ plnP m B F K f
def e_force9 : ev := (3, 9, false, 0, 0, sn e_f9 (fun x a I J Q => cPl a I J Q x.2.1 x.2.2.1 x.2.2.2.1 x.2.2.2.2) (fun x _ I J Q v I' J' Q' => fr I I' [12, 13, 14, 15] ∧ frJ J J' [13, 16, 17] ∧ rfQ Q Q' ∧ ∃ K f, plnC I' J' x.2.1 x.2.2.2.1 x.2.2.2.2.2.1 x.2.2.2.2.1.2.2.2.1 x.2.2.2.2.1.2.2.2.2 x.2.2.1 K f ∧ v = some (.long (fcV K (fun st what => smS f (shrN x.2.2.2.2.2.1 x.2.2.2.2.2.2.1 x.2.2.2.2.2.2.2.1 x.2.2.2.2.1.2.2.2.1 x.2.2.2.2.1.2.2.2.2 x.2.2.2.2.2.2.2.2.1 x.2.2.2.2.2.2.2.2.2 what) st x.2.1) x.1.1 x.1.2))))
set_option maxRecDepth 20000 in
theorem c_force9 {l : Launch} : CX l cdX9_force e_force9 := by
  refine cm_sn RX9 edX9_force [e_refresh, i_hasSt, e_within, e_stOf, e_share] false kX9_force cwX9_force okX9_force ⟨⟨_, rfl, c_refresh⟩, ⟨_, rfl, c_hasSt⟩, ⟨_, rfl, c_within⟩, ⟨_, rfl, c_stOf⟩, ⟨_, rfl, c_share⟩, trivial⟩ (by decide) rfl (v_f9 _ (by decide)) ?_
  intro um zm G Rt ⟨⟨ST, WT⟩, m, g, B, ⟨kp, kf, S, X, Y⟩, C, T, Kd, Wd, Hd⟩ a I J Q cl hb hp hR
  have hp : cPl a I J Q m g B ((kp, kf, S, X, Y), C, T, Kd, Wd, Hd) := hp
  have hR : ∀ v I' J' Q', (fr I I' [12, 13, 14, 15] ∧ frJ J J' [13, 16, 17] ∧ rfQ Q Q' ∧ ∃ K f, plnC I' J' m B C X Y g K f ∧ v = some (Value.long (fcV K (fun st what => smS f (shrN C T Kd X Y Wd Hd what) st m) ST WT))) → Rt v a I' J' Q' := hR
  refine cl [24, 28, 33, 78] 90 0 _ _ _ _ _ _ ?_
  refine Exists.intro (m, g, B, (kp, kf, S, X, Y), C, T, Kd, Wd, Hd) (And.intro rfl (And.intro hp ?_))
  rintro v I2 J2 Q2 ⟨rfl, hf, hfJ, hrQ, h130, F, K, f, hfit, hpn, hK, hI1, hI7, hJ6⟩
  have hc : cpn a I J Q m kp kf S X Y C T Kd Wd Hd := hp.1
  have hc2 := cpn_rf hc hf hfJ hrQ
  have hf : fr I I2 [12, 13, 14, 15] := hf
  have hK : K ≤ m := hK
  have hpn : plnP m B F K f := hpn
  have hI1 : I2 13 1 = nI K := hI1
  have hI7 : I2 13 7 = nI m := hI7
  have hJ6 : J2 13 6 = lN (rowV f m) := hJ6
  have hpc : plnC I2 J2 m B C X Y g K f := ⟨h130, hK, hI1, hI7, hJ6, F, hfit, hpn⟩
  obtain ⟨h10, hm, hall⟩ := id hc2
  have hlost : ¬ (wi ST 0 (nI K - 1) = true ∧ wi WT 0 3 = true) → Rt (some (.long (-9223372036854775808))) a I2 J2 Q2 := fun h => hR _ _ _ _ ⟨hf, hfJ, hrQ, K, f, hpc, by unfold fcV; rw [if_neg h]⟩
  have g24 : ¬ (wi ST 0 (nI K - 1) = true ∧ wi WT 0 3 = true) → G 24 [some (.ref 0), some (.int ST), some (.int WT), none, none, none, none] [] a I2 J2 Q2 := fun h => by
    refine cl [28, 33, 78] 90 24 _ _ _ _ _ _ ?_
    exact hlost h
  have e30 : I2 13 1 - 1 = nI K - 1 := by rw [hI1]
  refine Exists.intro (ST, 0, nI K - 1) (And.intro (show [Value.int ST, .int 0, .int (I2 13 1 - 1)] = [Value.int ST, .int 0, .int (nI K - 1)] by rw [e30]) (And.intro trivial ?_))
  refine And.intro (bI_01 _) ?_
  refine bI_cases' (wi ST 0 (nI K - 1)) (fun r1 => ?_) (fun r1 => g24 (fun h => by rw [h.1] at r1; cases r1))
  refine Exists.intro (WT, 0, 3) (And.intro rfl (And.intro trivial ?_))
  refine bI_cases (wi WT 0 3) (fun r2 => ?_) (fun r2 => g24 (fun h => by rw [h.2] at r2; cases r2))
  have hans : Rt (some (.long (lN (smS f (shrN C T Kd X Y Wd Hd WT.toNatClampNeg) ST.toNatClampNeg m)))) a I2 J2 Q2 := hR _ _ _ _ ⟨hf, hfJ, hrQ, K, f, hpc, by unfold fcV; rw [if_pos ⟨r1, r2⟩]⟩
  obtain ⟨st, hst, rfl⟩ := wi_st (by omega) r1
  obtain ⟨what, hwt, rfl⟩ := wi_nat (n := 3) (by decide) r2
  rw [nI_clamp (by omega), nI_clamp (by omega)] at hans
  have hfp : ∀ p, p < m → f p < 16 := fun p hp => by have := hpn.1.1 p hp; omega
  have loop : ∀ d p (v6 : Option Value), d + p = m → G 33 [some (.ref 0), some (.int (nI st)), some (.int (nI what)), some (.long (lN (smS f (shrN C T Kd X Y Wd Hd what) st p))), none, some (.int (nI p)), v6] [] a I2 J2 Q2 := by
    intro d
    induction d with
    | zero =>
      intro p v6 hd
      obtain rfl : p = m := by omega
      refine cl [24, 28, 33, 78] 90 33 _ _ _ _ _ _ ?_
      exact And.intro (fun _ => hans) (fun (h : ¬ I2 0 10 ≤ nI p) => absurd (by rw [h10]; exact nI_le (Nat.le_refl _) (by omega)) h)
    | succ d ih =>
      intro p v6 hd
      have hpm : p < m := by omega
      have hpq := hall p hpm
      have hqe : qE qX Q2 2 (nI p).toNatClampNeg = some (kp p) := by rw [nI_clamp (by omega)]; exact hpq.1
      have g78 : ∀ n (v6 : Option Value), n = smS f (shrN C T Kd X Y Wd Hd what) st (p + 1) → G 78 [some (.ref 0), some (.int (nI st)), some (.int (nI what)), some (.long (lN n)), none, some (.int (nI p)), v6] [] a I2 J2 Q2 := by
        intro n v6 hn
        subst hn
        refine cl [24, 28, 33] 90 78 _ _ _ _ _ _ ?_
        have := ih (p + 1) v6 (by omega)
        rw [← nI_1 p] at this
        exact this
      refine cl [24, 28, 33, 78] 90 33 _ _ _ _ _ _ ?_
      refine And.intro (fun (h : I2 0 10 ≤ nI p) => absurd h (by rw [h10]; exact nI_ge hpm (by omega))) (fun _ => And.intro (show vp_in (nI p) 10 from vp_in_nI (by omega) (by decide)) ?_)
      rw [hqe]
      refine Exists.intro (p, m, 0, f) (And.intro rfl (And.intro ⟨hpm, hm, hfp, hI7, hJ6⟩ ?_))
      refine And.intro (fun (h : ¬ nI (f p) = nI st) => ?_) (fun (h : nI (f p) = nI st) => ?_)
      · rw [nI_eq (by have := hfp p hpm; omega) (by omega)] at h
        exact g78 _ _ (show _ = (if f p = st then _ else _) from by rw [if_neg h])
      · rw [nI_eq (by have := hfp p hpm; omega) (by omega)] at h
        refine vko hpq.2.1 rfl ?_
        refine Exists.intro ((kp p, Kd p, S p, X p, Y p, T p, kf p, C p, Wd p, Hd p), what) (And.intro rfl (And.intro ⟨hpq.2, hwt⟩ ?_))
        have := g78 (smS f (shrN C T Kd X Y Wd Hd what) st p + shrN C T Kd X Y Wd Hd what p) (some (.ref (kp p))) (show _ = (if f p = st then _ else _) from by rw [if_pos h])
        rw [← lN_add] at this
        exact this
  refine cl [24, 33, 78] 90 28 _ _ _ _ _ _ ?_
  exact loop m 0 none (by omega)
