/-! REFERENCE: peak, whole -/
set_option maxRecDepth 20000 in
theorem c_rpeak {l : Launch} : CX l cdX10_peak e_rpeak := by
  refine cm_sn RX10 edX10_peak [e_mkPlan, e_within, e_forceOf] false kX10_peak cwX10_peak okX10_peak ⟨⟨_, rfl, c_mkPlan⟩, ⟨_, rfl, c_rwithin⟩, ⟨_, rfl, c_forceOf⟩, trivial⟩ (by decide) rfl (v_fc _ (by decide)) ?_
  intro um zm G Rt ⟨⟨ST, SS⟩, ⟨m, g⟩, ⟨B, S, X, Y, C, F⟩, T, Kd, Wd, Hd⟩ a I J Q cl hb hp hR
  have hp : rAll I m g B S X Y C F T Kd Wd Hd := hp
  have hR : ∀ v I' J' Q', (J' = J ∧ Q' = Q ∧ pfr I I' ∧ ∃ K f, K ≤ m ∧ plnP m B F K f ∧ pkP K (fun st => fsl f (frc C T Kd) st m) ST SS v) → Rt v a I' J' Q' := hR
  have hm := hp.1.1.1.2.1
  refine cl [37, 72, 81, 115] 120 0 _ _ _ _ _ _ ?_
  refine Exists.intro ((m, g), B, S, X, Y, C, F) (And.intro rfl (And.intro hp.1 ?_))
  rintro v I2 J2 Q2 ⟨rfl, rfl, rfl, hf, h31, K, f, hK, hI30, hpl, hpn⟩
  have hf : fr I I2 [31, 50, 51, 52, 53, 54] := hf
  have hK : K ≤ m := hK
  have hpl : ∀ p, p < m → I2 52 p = nI (f p) := hpl
  have hpn : plnP m B F K f := hpn
  have hpfr : pfr I I2 := ⟨fun k hk => hf k (fun h => hk (by simp at h ⊢; omega)), h31⟩
  have hp2 : rAll I2 m g B S X Y C F T Kd Wd Hd := rAll_fr hp (h31 19 (by decide)) (fun k hk => hf k (by simp at hk ⊢; omega))
  have e30 : I2 31 30 - 1 = nI K - 1 := by rw [hI30]
  refine Exists.intro (ST, 0, nI K - 1) (And.intro (show [Value.int ST, .int 0, .int (I2 31 30 - 1)] = [Value.int ST, .int 0, .int (nI K - 1)] by rw [e30]) (And.intro trivial ?_))
  refine bI_cases (wi ST 0 (nI K - 1)) (fun r1 => ?_) (fun r1 => hR _ _ _ _ ⟨rfl, rfl, hpfr, K, f, hK, hpn, fun _ => rfl, fun h => by (rw [h] at r1; cases r1), fun h => by (rw [h] at r1; cases r1)⟩)
  refine Exists.intro (SS, 1, 4) (And.intro rfl (And.intro trivial ?_))
  refine bI_cases (wi SS 1 4) (fun r2 => ?_) (fun r2 => hR _ _ _ _ ⟨rfl, rfl, hpfr, K, f, hK, hpn, fun h => by (rw [h] at r1; cases r1), fun _ _ => rfl, fun _ h => by (rw [h] at r2; cases r2)⟩)
  have hans : ∀ p I', pfr I I' → lpN (fsl f (frc C T Kd) ST.toNatClampNeg m) SS.toNatClampNeg p → Rt (some (.int (nI p))) a I' J2 Q2 := fun p I' h1 h2 => hR _ _ _ _ ⟨rfl, rfl, h1, K, f, hK, hpn, fun h => by (rw [h] at r1; cases r1), fun _ h => by (rw [h] at r2; cases r2), fun _ _ => ⟨p, rfl, h2⟩⟩
  obtain ⟨st, hst, rfl⟩ := wi_st (by omega) r1
  obtain ⟨s, hs1, hs4, rfl⟩ : ∃ s, 1 ≤ s ∧ s ≤ 4 ∧ SS = nI s := by
    unfold wi at r2
    rw [Bool.and_eq_true, decide_eq_true_iff, decide_eq_true_iff] at r2
    have hx0 : ¬ SS < 0 := Int32.not_lt.mpr (Int32.le_trans (show (0 : Int32) ≤ 1 by decide) r2.1)
    obtain ⟨j, hj, rfl⟩ := nI_of hx0
    exact ⟨j, (nI_leI (a := 1) (by decide) hj).mp r2.1, (nI_leI (b := 4) hj (by decide)).mp r2.2, rfl⟩
  rw [nI_clamp (by omega), nI_clamp (by omega)] at hans
  have h19 : I2 31 19 = nI m := hp2.1.1.1.1
  have hfp : ∀ p, p < m → f p < 1000 := fun p hp => by have := hpn.1.1 p hp; omega
  have hwle : ∀ p, p < m → frc C T Kd p ≤ 5120 := fun p hp' => frc_le (hp2.2.1 p hp').2.2
  have hne : fsl f (frc C T Kd) st m ≠ [] := by
    obtain ⟨q, q1, q2⟩ := val_ne hpn.1 hpn.2.2 st hst
    exact fsl_ne m q q1 q2
  have hlen := fsl_len f (frc C T Kd) st m
  have hmem : ∀ x, x ∈ fsl f (frc C T Kd) st m → x ≤ 5120 := fsl_mem m hwle
  -- behind the loads: the search
  have l3 : ∀ I3, fr I2 I3 [55, 56] → (∀ k, k < (fsl f (frc C T Kd) st m).length → I3 55 k = nI ((fsl f (frc C T Kd) st m).getD k 0)) → (∀ j, j < 4 → I3 56 j = 0) → G 101 [some (.ref 31), some (.int (nI st)), some (.int (nI s)), some (.int (nI (fsl f (frc C T Kd) st m).length)), some (.int (nI 4)), none, none, none] [] a I3 J2 Q2 := by
    intro I3 hf3 h55 h56
    generalize hl : fsl f (frc C T Kd) st m = ll at *
    have hl1 : 1 ≤ ll.length := by
      rcases Nat.eq_zero_or_pos ll.length with h | h
      · exact absurd (List.eq_nil_of_length_eq_zero h) hne
      · exact h
    have hsum : ll.sum ≤ 100000 := by
      have h1 := sum_le_len ll hmem
      have h2 : ll.length * 5120 ≤ 10 * 5120 := Nat.mul_le_mul_right _ (by omega)
      omega
    refine cl [115] 120 101 _ _ _ _ _ _ ?_
    refine And.intro (show vp_in 0 10 from vp_in_nI (n := 0) (by decide) (by decide)) ?_
    have := rpeak_search (a := a) (J := J2) (Q := Q2) cl I3 ll s (nI st) (by omega) hs1 hs4 (fun x hx => by have := hmem x hx; omega) h55 ll.length 0 ll (fun _ => 0) 1000000 0 1000000 none none (up2 I3 57 0 (-1)) (by omega) hl1 rfl (fun j _ => by show 0 + ll.sum ≤ 200000; omega) (Nat.le_refl _) (Nat.zero_le _) (fr_up (fr_refl _ _) (by decide)) (fun j hj => by rw [up2_ne (by decide), if_pos rfl]; exact h56 j (by omega)) (by rw [up2_at]; rfl) (Nat.le_refl _) (fun j _ => Nat.zero_le _) (Or.inl rfl) (fun w j hj => by omega) (fun I4 M4 v6 v7 q1 q2 q3 q4 q5 q6 => ?_)
    · exact this
    · refine cl [] 120 115 _ _ _ _ _ _ ?_
      have hz : ∀ j, 0 ≤ j → j < s → (fun _ : Nat => 0) j = 0 := fun _ _ _ => rfl
      have hexL : canL s ll.sum ll (fun _ => 0) := by
        have := canL_ex (s := s) (by omega) ll (fun _ => 0) 0 (fun j _ => Nat.le_refl _)
        rwa [Nat.zero_add] at this
      have hle := q6 _ (canL_R ll 0 _ hz hexL)
      have hlp : lpN ll s M4 := by
        refine ⟨?_, fun w hw => q6 w (canL_R ll 0 _ hz hw)⟩
        rcases q5 with e | e
        · omega
        · exact canR_L 0 ll _ e
      refine And.intro (fun _ => hans M4 I4 ⟨fun k hk => ?_, fun j hj => ?_⟩ hlp) (fun h => absurd (by decide) h)
      · simp only [List.mem_cons, List.not_mem_nil, not_or] at hk
        rw [q1 k (by simp only [List.mem_cons, List.not_mem_nil, not_or]; exact ⟨hk.2.2.2.2.2.2.2.1, hk.2.2.2.2.2.2.2.2.1, id⟩), hf3 k (by simp only [List.mem_cons, List.not_mem_nil, not_or]; exact ⟨hk.2.2.2.2.2.2.1, hk.2.2.2.2.2.2.2.1, id⟩)]
        exact hpfr.1 k (by simp only [List.mem_cons, List.not_mem_nil, not_or]; exact hk)
      · rw [q1 31 (by decide), hf3 31 (by decide)]; exact hpfr.2 j hj
  have l2 : ∀ d j I3, d + j = 4 → fr I2 I3 [55, 56] → (∀ k, k < (fsl f (frc C T Kd) st m).length → I3 55 k = nI ((fsl f (frc C T Kd) st m).getD k 0)) → (∀ i, i < j → I3 56 i = 0) → G 81 [some (.ref 31), some (.int (nI st)), some (.int (nI s)), some (.int (nI (fsl f (frc C T Kd) st m).length)), some (.int (nI j)), none, none, none] [] a I3 J2 Q2 := by
    intro d
    induction d with
    | zero =>
      intro j I3 hd hf3 h55 h56
      obtain rfl : j = 4 := by omega
      refine cl [101] 120 81 _ _ _ _ _ _ ?_
      exact And.intro (fun _ => l3 I3 hf3 h55 h56) (fun h => absurd (by decide) h)
    | succ d ih =>
      intro j I3 hd hf3 h55 h56
      refine cl [81] 120 81 _ _ _ _ _ _ ?_
      refine And.intro (fun h => absurd h (nI_ge (a := j) (b := 4) (by omega) (by decide))) (fun _ => And.intro (show vp_in (nI j) 4 from vp_in_nI (by omega) (by decide)) ?_)
      have := ih (j + 1) (up2 I3 56 (nI j).toNatClampNeg 0) (by omega) (fr_up hf3 (by decide)) (fun k hk => by rw [up2_ne (by decide)]; exact h55 k hk) (fun i hi => by
        rw [nI_clamp (by omega)]
        by_cases e : i = j
        · subst e; rw [up2_at]
        · rw [up2_nej e]; exact h56 i (by omega))
      rw [← nI_1 j] at this
      exact this
  have l1 : ∀ d p I3, d + p = m → fr I2 I3 [55, 56] → (∀ k, k < (fsl f (frc C T Kd) st p).length → I3 55 k = nI ((fsl f (frc C T Kd) st p).getD k 0)) → G 37 [some (.ref 31), some (.int (nI st)), some (.int (nI s)), some (.int (nI (fsl f (frc C T Kd) st p).length)), some (.int (nI p)), none, none, none] [] a I3 J2 Q2 := by
    intro d
    induction d with
    | zero =>
      intro p I3 hd hf3 h55
      obtain rfl : p = m := by omega
      refine cl [81] 120 37 _ _ _ _ _ _ ?_
      exact And.intro (fun _ => l2 4 0 I3 rfl hf3 h55 (fun i hi => by omega)) (fun (h : ¬ I3 31 19 ≤ nI p) => absurd (by rw [hf3 31 (by decide), h19]; exact nI_le (Nat.le_refl _) (by omega)) h)
    | succ d ih =>
      intro p I3 hd hf3 h55
      have hpm : p < m := by omega
      have ecp : (nI p).toNatClampNeg = p := nI_clamp (by omega)
      have hin : vp_in (nI p) 10 := vp_in_nI (by omega) (by decide)
      have hlp := fsl_len f (frc C T Kd) st p
      have hp3 : rAll I3 m g B S X Y C F T Kd Wd Hd := rAll_fr hp2 (by rw [hf3 31 (by decide)]) (fun k hk => hf3 k (by simp at hk ⊢; omega))
      have epl : I3 52 (nI p).toNatClampNeg = nI (f p) := by rw [ecp, hf3 52 (by decide)]; exact hpl p hpm
      refine cl [37, 72] 120 37 _ _ _ _ _ _ ?_
      refine And.intro (fun (h : I3 31 19 ≤ nI p) => absurd h (by rw [hf3 31 (by decide), h19]; exact nI_ge hpm (by omega))) (fun _ => And.intro hin (And.intro (fun (h : ¬ I3 52 (nI p).toNatClampNeg = nI st) => ?_) (fun (h : I3 52 (nI p).toNatClampNeg = nI st) => ?_)))
      · rw [epl, nI_eq (by have := hfp p hpm; omega) (by omega)] at h
        have efs : fsl f (frc C T Kd) st (p + 1) = fsl f (frc C T Kd) st p := if_neg h
        refine cl [37] 120 72 _ _ _ _ _ _ ?_
        have := ih (p + 1) I3 (by omega) hf3 (by rw [efs]; exact h55)
        rw [efs, ← nI_1 p] at this
        exact this
      · rw [epl, nI_eq (by have := hfp p hpm; omega) (by omega)] at h
        have efs : fsl f (frc C T Kd) st (p + 1) = fsl f (frc C T Kd) st p ++ [frc C T Kd p] := if_pos h
        have ecl : (nI (fsl f (frc C T Kd) st p).length).toNatClampNeg = (fsl f (frc C T Kd) st p).length := nI_clamp (by omega)
        refine Exists.intro (p, m, S, C, T, Kd) (And.intro rfl (And.intro ⟨hpm, hm, rAll_rfo hp3⟩ ?_))
        refine And.intro (show vp_in (nI (fsl f (frc C T Kd) st p).length) 10 from vp_in_nI (by omega) (by decide)) ?_
        refine cl [37] 120 72 _ _ _ _ _ _ ?_
        have := ih (p + 1) (up2 I3 55 (nI (fsl f (frc C T Kd) st p).length).toNatClampNeg (nI (frc C T Kd p))) (by omega) (fr_up hf3 (by decide)) (fun k hk => by
          rw [efs, List.length_append, List.length_singleton] at hk
          rw [efs, getD_app, ecl]
          by_cases e : k = (fsl f (frc C T Kd) st p).length
          · rw [e, up2_at, if_neg (Nat.lt_irrefl _), if_pos rfl]
          · rw [up2_nej e, if_pos (by omega)]; exact h55 k (by omega))
        rw [efs, List.length_append, List.length_singleton, ← nI_1 p, ← nI_1 (fsl f (frc C T Kd) st p).length] at this
        exact this
  exact l1 m 0 I2 (by omega) (fr_refl _ _) (fun k hk => by cases hk)
