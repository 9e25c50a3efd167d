/-! REFERENCE: forceOf, force -/
def rpk (I : hI) (m : Nat) (Kd T : Nat → Nat) : Prop := ∀ p, p < m → (I 44 p = nI (Kd p) ∧ Kd p ≤ 2) ∧ I 48 p = nI (T p) ∧ T p ≤ 20
def frc (C T Kd : Nat → Nat) (p : Nat) : Nat := if Kd p = 2 then edS (C p) 8 * T p / 2 else edS (C p) 8 * T p
theorem frc_le {C T Kd : Nat → Nat} {p : Nat} (h : T p ≤ 20) : frc C T Kd p ≤ 5120 := by
  have h1 := edS_le (C p) 8
  have h2 : edS (C p) 8 * T p ≤ 256 * 20 := Nat.mul_le_mul (by omega) h
  unfold frc
  split <;> omega
abbrev x_fo : Type := Nat × Nat × (Nat → Nat) × (Nat → Nat) × (Nat → Nat) × (Nat → Nat)
abbrev e_fo : x_fo → List Value := fun x => [.ref 31, .int (nI x.1)]
theorem v_fo (n : Nat) (h : 2 ≤ n) (x : x_fo) : okv (e_fo x) ∧ (lvA (e_fo x)).length ≤ n := ⟨okv_ref (okv_int okv_nil), h⟩
/-- shapes of the punches, kinds, thicknesses -/
def rfo (I : hI) (m : Nat) (S C T Kd : Nat → Nat) : Prop := rpk I m Kd T ∧ ∀ p, p < m → (I 45 p = nI (S p) ∧ S p < 12) ∧ rwA I 32 (8 * S p) (C p)
def e_forceOf : ev := (2, 10, false, 0, 0, sf e_fo (fun x _ I _ _ => x.1 < x.2.1 ∧ x.2.1 ≤ 10 ∧ rfo I x.2.1 x.2.2.1 x.2.2.2.1 x.2.2.2.2.1 x.2.2.2.2.2) (fun x _ _ _ _ => some (.int (nI (frc x.2.2.2.1 x.2.2.2.2.1 x.2.2.2.2.2 x.1)))))
set_option maxRecDepth 20000 in
theorem c_forceOf {l : Launch} : CX l cdX10_forceOf e_forceOf := by
  refine cm_sf RX10 edX10_forceOf [e_edgeOf] false kX10_forceOf cwX10_forceOf okX10_forceOf ⟨⟨_, rfl, c_edgeOf⟩, trivial⟩ (by decide) rfl (v_fo _ (by decide)) ?_
  intro um zm G Rt ⟨p, m, S, C, T, Kd⟩ a I J Q cl hb hp hR
  obtain ⟨hpm, hm, hk, hs⟩ := hp
  have hpm : p < m := hpm
  have hm : m ≤ 10 := hm
  have hR : ∀ v, v = some (Value.int (nI (frc C T Kd p))) → Rt v a I J Q := hR
  obtain ⟨⟨k1, k2⟩, k3, k4⟩ := hk p hpm
  obtain ⟨⟨s1, s2⟩, s3⟩ := hs p hpm
  have s1 : I 45 p = nI (S p) := s1
  have k1 : I 44 p = nI (Kd p) := k1
  have k2 : Kd p ≤ 2 := k2
  have k3 : I 48 p = nI (T p) := k3
  have k4 : T p ≤ 20 := k4
  have ecp : (nI p).toNatClampNeg = p := nI_clamp (by omega)
  have hin : vp_in (nI p) 10 := vp_in_nI (by omega) (by decide)
  have hle : edS (C p) 8 * T p ≤ 5120 := by
    have h1 := edS_le (C p) 8
    have h2 : edS (C p) 8 * T p ≤ 256 * 20 := Nat.mul_le_mul (by omega) k4
    omega
  refine cl [] 60 0 _ _ _ _ _ _ ?_
  refine And.intro hin ?_
  refine Exists.intro (S p, C p) (And.intro (show [Value.ref 31, .int (I 45 (nI p).toNatClampNeg)] = [Value.ref 31, .int (nI (S p))] by rw [ecp, s1]) (And.intro ⟨s2, s3⟩ ?_))
  have em : nI (edS (C p) 8) * I 48 (nI p).toNatClampNeg = nI (edS (C p) 8 * T p) := by rw [ecp, k3, pk_mul]
  refine And.intro hin (And.intro hin (And.intro (fun (h : ¬ I 44 (nI p).toNatClampNeg = 2) => ?_) (fun (h : I 44 (nI p).toNatClampNeg = 2) => And.intro (by decide) ?_)))
  · have hk2 : Kd p ≠ 2 := fun e => h (by rw [ecp, k1, e]; rfl)
    have := hR (some (.int (nI (edS (C p) 8) * I 48 (nI p).toNatClampNeg))) (by
      rw [em]
      unfold frc
      rw [if_neg hk2])
    exact this
  · have hk2 : Kd p = 2 := by
      rw [ecp, k1] at h
      exact (nI_eq (b := 2) (by omega) (by decide)).mp h
    have := hR (some (.int (nI (edS (C p) 8) * I 48 (nI p).toNatClampNeg / 2))) (by
      rw [em, show (2 : Int32) = nI 2 from rfl, pk_div (by omega) (by decide) (by decide)]
      unfold frc
      rw [if_pos hk2])
    exact this
/-- what a punch adds to its station's sums -/
def shrN (C T Kd X Y Wd Hd : Nat → Nat) (what p : Nat) : Nat := if what = 0 then frc C T Kd p else if what = 1 then frc C T Kd p * (2 * X p + Wd p) else if what = 2 then frc C T Kd p * (2 * Y p + Hd p) else 1
def smS (f sh : Nat → Nat) (st : Nat) : Nat → Nat
  | 0 => 0
  | p + 1 => if f p = st then smS f sh st p + sh p else smS f sh st p
/-- all that plans and forces of the reference rest on -/
def rAll (I : hI) (m g : Nat) (B S X Y C F T Kd Wd Hd : Nat → Nat) : Prop := mpPre I m g B S X Y C F ∧ rpk I m Kd T ∧ ∀ p, p < m → (I 33 (S p) = nI (Wd p) ∧ Wd p ≤ 8) ∧ I 34 (S p) = nI (Hd p) ∧ Hd p ≤ 8
theorem rAll_rfo {I : hI} {m g : Nat} {B S X Y C F T Kd Wd Hd : Nat → Nat} (h : rAll I m g B S X Y C F T Kd Wd Hd) : rfo I m S C T Kd := ⟨h.2.1, fun p hp => by
  have := h.1.1.2.2 p hp
  exact ⟨this.1, this.2.1.1⟩⟩
theorem rAll_fr {I I' : hI} {m g : Nat} {B S X Y C F T Kd Wd Hd : Nat → Nat} (h : rAll I m g B S X Y C F T Kd Wd Hd) (h31 : I' 31 19 = I 31 19) (hk : ∀ k, k ∈ [32, 33, 34, 37, 44, 45, 46, 47, 48, 49] → I' k = I k) : rAll I' m g B S X Y C F T Kd Wd Hd := by
  obtain ⟨⟨h1, h2, h3, h4⟩, h5, h6⟩ := h
  refine ⟨⟨plR_of h1 h31 (fun k hk' => hk k (by simp at hk' ⊢; omega)), h2, h3, h4⟩, fun p hp => ?_, fun p hp => ?_⟩
  · rw [hk 44 (by decide), hk 48 (by decide)]; exact h5 p hp
  · rw [hk 33 (by decide), hk 34 (by decide)]; exact h6 p hp
abbrev x_fc : Type := (Int32 × Int32) × (Nat × Nat) × ((Nat → Nat) × (Nat → Nat) × (Nat → Nat) × (Nat → Nat) × (Nat → Nat) × (Nat → Nat)) × (Nat → Nat) × (Nat → Nat) × (Nat → Nat) × (Nat → Nat)
abbrev e_fc : x_fc → List Value := fun x => [.ref 31, .int x.1.1, .int x.1.2]
theorem v_fc (n : Nat) (h : 3 ≤ n) (x : x_fc) : okv (e_fc x) ∧ (lvA (e_fc x)).length ≤ n := ⟨okv_ref (okv_int (okv_int okv_nil)), h⟩
abbrev p_fc : x_fc → hA → hI → hJ → hQ → Prop := fun x _ I _ _ => rAll I x.2.1.1 x.2.1.2 x.2.2.1.1 x.2.2.1.2.1 x.2.2.1.2.2.1 x.2.2.1.2.2.2.1 x.2.2.1.2.2.2.2.1 x.2.2.1.2.2.2.2.2 x.2.2.2.1 x.2.2.2.2.1 x.2.2.2.2.2.1 x.2.2.2.2.2.2
/-- the answer of force, by the plan that was found -/
def fcV (K : Nat) (sum : Nat → Nat → Nat) (st what : Int32) : Int64 := if wi st 0 (nI K - 1) = true ∧ wi what 0 3 = true then lN (sum st.toNatClampNeg what.toNatClampNeg) else -9223372036854775808
def pfr (I I' : hI) : Prop := fr I I' [31, 50, 51, 52, 53, 54, 55, 56, 57] ∧ ∀ j, j ≠ 30 → I' 31 j = I 31 j
def e_rforce : ev := (3, 10, false, 0, 0, sn e_fc p_fc (fun x _ I J Q v I' J' Q' => J' = J ∧ Q' = Q ∧ pfr I I' ∧ ∃ K f, K ≤ x.2.1.1 ∧ plnP x.2.1.1 x.2.2.1.1 x.2.2.1.2.2.2.2.2 K f ∧ v = some (.long (fcV K (fun st what => smS f (shrN x.2.2.1.2.2.2.2.1 x.2.2.2.1 x.2.2.2.2.1 x.2.2.1.2.2.1 x.2.2.1.2.2.2.1 x.2.2.2.2.2.1 x.2.2.2.2.2.2 what) st x.2.1.1) x.1.1 x.1.2))))
theorem wi_st {x : Int32} {K : Nat} (hK : K ≤ 10) (h : wi x 0 (nI K - 1) = true) : ∃ j, j < K ∧ x = nI j := by
  cases K with
  | zero =>
    unfold wi at h
    rw [Bool.and_eq_true, decide_eq_true_iff, decide_eq_true_iff, fa_le, fa_le] at h
    have e1 : (nI 0 - 1).toInt = -1 := by decide
    have e2 : (0 : Int32).toInt = 0 := by decide
    omega
  | succ K =>
    rw [nI_pred] at h
    obtain ⟨j, hj, rfl⟩ := wi_nat (by omega) h
    exact ⟨j, by omega, rfl⟩
set_option maxRecDepth 20000 in
theorem c_rforce {l : Launch} : CX l cdX10_force e_rforce := by
  refine cm_sn RX10 edX10_force [e_mkPlan, e_within, e_forceOf] false kX10_force cwX10_force okX10_force ⟨⟨_, rfl, c_mkPlan⟩, ⟨_, rfl, c_rwithin⟩, ⟨_, rfl, c_forceOf⟩, trivial⟩ (by decide) rfl (v_fc _ (by decide)) ?_
  intro um zm G Rt ⟨⟨ST, WT⟩, ⟨m, g⟩, ⟨B, S, X, Y, C, F⟩, T, Kd, Wd, Hd⟩ a I J Q cl hb hp hR
  have hp : rAll I m g B S X Y C F T Kd Wd Hd := hp
  have hR : ∀ v I' J' Q', (J' = J ∧ Q' = Q ∧ pfr I I' ∧ ∃ K f, K ≤ m ∧ plnP m B F K f ∧ v = some (Value.long (fcV K (fun st what => smS f (shrN C T Kd X Y Wd Hd what) st m) ST WT))) → Rt v a I' J' Q' := hR
  have hm := hp.1.1.1.2.1
  refine cl [36, 122, 144, 146] 90 0 _ _ _ _ _ _ ?_
  refine Exists.intro ((m, g), B, S, X, Y, C, F) (And.intro rfl (And.intro hp.1 ?_))
  rintro v I2 J2 Q2 ⟨rfl, rfl, rfl, hf, h31, K, f, hK, hI30, hpl, hpn⟩
  have hf : fr I I2 [31, 50, 51, 52, 53, 54] := hf
  have hK : K ≤ m := hK
  have hpl : ∀ p, p < m → I2 52 p = nI (f p) := hpl
  have hpn : plnP m B F K f := hpn
  have hpfr : pfr I I2 := ⟨fun k hk => hf k (fun h => hk (by simp at h ⊢; omega)), h31⟩
  have hp2 : rAll I2 m g B S X Y C F T Kd Wd Hd := rAll_fr hp (h31 19 (by decide)) (fun k hk => hf k (by simp at hk ⊢; omega))
  have hrf := rAll_rfo hp2
  have hlost : ¬ (wi ST 0 (nI K - 1) = true ∧ wi WT 0 3 = true) → Rt (some (.long (-9223372036854775808))) a I2 J2 Q2 := fun h => hR _ _ _ _ ⟨rfl, rfl, hpfr, K, f, hK, hpn, by unfold fcV; rw [if_neg h]⟩
  have e30 : I2 31 30 - 1 = nI K - 1 := by rw [hI30]
  refine Exists.intro (ST, 0, nI K - 1) (And.intro (show [Value.int ST, .int 0, .int (I2 31 30 - 1)] = [Value.int ST, .int 0, .int (nI K - 1)] by rw [e30]) (And.intro trivial ?_))
  refine bI_cases' (wi ST 0 (nI K - 1)) (fun r1 => ?_) (fun r1 => hlost (fun h => by rw [h.1] at r1; cases r1))
  refine Exists.intro (WT, 0, 3) (And.intro rfl (And.intro trivial ?_))
  refine bI_cases (wi WT 0 3) (fun r2 => ?_) (fun r2 => hlost (fun h => by rw [h.2] at r2; cases r2))
  have hans : Rt (some (.long (lN (smS f (shrN C T Kd X Y Wd Hd WT.toNatClampNeg) ST.toNatClampNeg m)))) a I2 J2 Q2 := hR _ _ _ _ ⟨rfl, rfl, hpfr, K, f, hK, hpn, by unfold fcV; rw [if_pos ⟨r1, r2⟩]⟩
  obtain ⟨st, hst, rfl⟩ := wi_st (by omega) r1
  obtain ⟨what, hwt, rfl⟩ := wi_nat (n := 3) (by decide) r2
  rw [nI_clamp (by omega), nI_clamp (by omega)] at hans
  have h19 : I2 31 19 = nI m := hp2.1.1.1.1
  have hfp : ∀ p, p < m → f p < 1000 := fun p hp => by have := hpn.1.1 p hp; omega
  have loop : ∀ d p (v6 : Option Value), d + p = m → G 36 [some (.ref 31), some (.int (nI st)), some (.int (nI what)), some (.long (lN (smS f (shrN C T Kd X Y Wd Hd what) st p))), none, some (.int (nI p)), v6, none] [] a I2 J2 Q2 := by
    intro d
    induction d with
    | zero =>
      intro p v6 hd
      obtain rfl : p = m := by omega
      refine cl [36, 122, 144, 146] 90 36 _ _ _ _ _ _ ?_
      exact And.intro (fun _ => hans) (fun (h : ¬ I2 31 19 ≤ nI p) => absurd (by rw [h19]; exact nI_le (Nat.le_refl _) (by omega)) h)
    | succ d ih =>
      intro p v6 hd
      have hpm : p < m := by omega
      have ecp : (nI p).toNatClampNeg = p := nI_clamp (by omega)
      have hin : vp_in (nI p) 10 := vp_in_nI (by omega) (by decide)
      obtain ⟨⟨s1, s2⟩, ⟨s3, s4⟩, ⟨s5, s6⟩, s7, s8⟩ := hp2.1.1.2.2 p hpm
      obtain ⟨⟨q1, q2⟩, q3, q4⟩ := hp2.2.2 p hpm
      have hfl : frc C T Kd p ≤ 5120 := frc_le (hp2.2.1 p hpm).2.2
      have g146 : ∀ n (v6 : Option Value), n = smS f (shrN C T Kd X Y Wd Hd what) st (p + 1) → G 146 [some (.ref 31), some (.int (nI st)), some (.int (nI what)), some (.long (lN n)), none, some (.int (nI p)), v6, none] [] a I2 J2 Q2 := by
        intro n v6 hn
        subst hn
        refine cl [36, 122, 144] 90 146 _ _ _ _ _ _ ?_
        have := ih (p + 1) v6 (by omega)
        rw [← nI_1 p] at this
        exact this
      refine cl [36, 122, 144, 146] 90 36 _ _ _ _ _ _ ?_
      refine And.intro (fun (h : I2 31 19 ≤ nI p) => absurd h (by rw [h19]; exact nI_ge hpm (by omega))) (fun _ => And.intro hin (And.intro (fun (h : I2 52 (nI p).toNatClampNeg = nI st) => ?_) (fun (h : ¬ I2 52 (nI p).toNatClampNeg = nI st) => ?_)))
      · rw [ecp, hpl p hpm, nI_eq (by have := hfp p hpm; omega) (by omega)] at h
        have hsm : smS f (shrN C T Kd X Y Wd Hd what) st (p + 1) = smS f (shrN C T Kd X Y Wd Hd what) st p + shrN C T Kd X Y Wd Hd what p := if_pos h
        have g144 : ∀ x by', x = shrN C T Kd X Y Wd Hd what p → G 144 [some (.ref 31), some (.int (nI st)), some (.int (nI what)), some (.long (lN (smS f (shrN C T Kd X Y Wd Hd what) st p))), none, some (.int (nI p)), some (.long by'), none] [.long (lN x), .long (lN (smS f (shrN C T Kd X Y Wd Hd what) st p))] a I2 J2 Q2 := by
          intro x by' hx
          refine cl [36, 122, 146] 90 144 _ _ _ _ _ _ ?_
          have := g146 (smS f (shrN C T Kd X Y Wd Hd what) st p + x) (some (.long by')) (by rw [hsm, hx])
          rw [← lN_add] at this
          exact this
        have g122 : ∀ y (v6 : Option Value), (what = 1 → y = 2 * X p + Wd p) → (what = 2 → y = 2 * Y p + Hd p) → (what = 0 → y = 1) → G 122 [some (.ref 31), some (.int (nI st)), some (.int (nI what)), some (.long (lN (smS f (shrN C T Kd X Y Wd Hd what) st p))), none, some (.int (nI p)), v6, none] [.long (lN y)] a I2 J2 Q2 := by
          intro y v6 h1 h2 h0
          refine cl [36, 144, 146] 90 122 _ _ _ _ _ _ ?_
          refine And.intro (fun (c : ¬ nI what = 3) => ?_) (fun (c : nI what = 3) => ?_)
          · have hw3 : what ≠ 3 := fun e => c (by rw [e]; rfl)
            refine Exists.intro (p, m, S, C, T, Kd) (And.intro rfl (And.intro ⟨hpm, hm, hrf⟩ ?_))
            have := g144 (frc C T Kd p * y) (lN y) (by
              unfold shrN
              by_cases w0 : what = 0
              · rw [if_pos w0, h0 w0, Nat.mul_one]
              · rw [if_neg w0]
                by_cases w1 : what = 1
                · rw [if_pos w1, h1 w1]
                · have w2 : what = 2 := by omega
                  rw [if_neg w1, if_pos w2, h2 w2])
            rw [← lN_mul, ← nI_l (n := frc C T Kd p) (by omega)] at this
            exact this
          · have hw3 : what = 3 := (nI_eq (b := 3) (by omega) (by decide)).mp c
            exact g144 1 (lN y) (by rw [hw3]; rfl)
        have esp : I2 45 (nI p).toNatClampNeg = nI (S p) := by rw [ecp]; exact s1
        have hins : vp_in (I2 45 (nI p).toNatClampNeg) 12 := by rw [esp]; exact vp_in_nI s2 (by decide)
        refine And.intro (fun (c : ¬ nI what = 1) => And.intro (fun (c2 : ¬ nI what = 2) => ?_) (fun (c2 : nI what = 2) => ?_)) (fun (c : nI what = 1) => ?_)
        · have hw1 : what ≠ 1 := fun e => c (by rw [e]; rfl)
          have hw2 : what ≠ 2 := fun e => c2 (by rw [e]; rfl)
          exact g122 1 v6 (fun e => absurd e hw1) (fun e => absurd e hw2) (fun _ => rfl)
        · have hw2 : what = 2 := (nI_eq (b := 2) (by omega) (by decide)).mp c2
          refine And.intro hin (And.intro hin (And.intro hins ?_))
          have e1 : (2 * I2 47 (nI p).toNatClampNeg + I2 34 (I2 45 (nI p).toNatClampNeg).toNatClampNeg).toInt64 = lN (2 * Y p + Hd p) := by
            rw [esp, nI_clamp (n := S p) (by omega), ecp, s7, q3, show (2 : Int32) = nI 2 from rfl, pk_mul, nI_add, nI_l (by omega)]
          have := g122 (2 * Y p + Hd p) v6 (fun e => by omega) (fun _ => rfl) (fun e => by omega)
          rw [← e1] at this
          exact this
        · have hw1 : what = 1 := (nI_eq (b := 1) (by omega) (by decide)).mp c
          refine And.intro hin (And.intro hin (And.intro hins ?_))
          have e1 : (2 * I2 46 (nI p).toNatClampNeg + I2 33 (I2 45 (nI p).toNatClampNeg).toNatClampNeg).toInt64 = lN (2 * X p + Wd p) := by
            rw [esp, nI_clamp (n := S p) (by omega), ecp, s5, q1, show (2 : Int32) = nI 2 from rfl, pk_mul, nI_add, nI_l (by omega)]
          have := g122 (2 * X p + Wd p) v6 (fun _ => rfl) (fun e => by omega) (fun e => by omega)
          rw [← e1] at this
          exact this
      · rw [ecp, hpl p hpm, nI_eq (by have := hfp p hpm; omega) (by omega)] at h
        exact g146 _ v6 (show _ = (if f p = st then _ else _) from by rw [if_neg h])
  exact loop m 0 none (by omega)
