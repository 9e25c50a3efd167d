/-! the class's plan: fittingTo, refreshPlan -/
theorem nearB_iff {c1 c2 w2 h2 g : Nat} {dx dy : Int} (hc1 : c1 < 2 ^ 64) (hc2 : c2 < 2 ^ 64) (hf : fitN c2 w2 h2) (hw : w2 ≤ 8) (hh : h2 ≤ 8) (hg : g ≤ 4) : nearB (grN c1 g) c2 w2 h2 dx dy = true ↔ clash c1 c2 g dx dy := by
  unfold nearB
  rw [Bool.and_eq_true, Bool.and_eq_true, decide_eq_true_iff, decide_eq_true_iff]
  constructor
  · rintro ⟨⟨h1, h2⟩, h3⟩
    exact (near_bit hc1 hc2 hf hw hh hg h1).mp h3
  · intro h
    have := clash_far hg h
    exact ⟨this, (near_bit hc1 hc2 hf hw hh hg this.1).mpr h⟩
/-- the punches of the class -/
def cpn (a : hA) (I : hI) (J : hJ) (Q : hQ) (m : Nat) (kp kf S X Y C T Kd Wd Hd : Nat → Nat) : Prop := I 0 10 = nI m ∧ m ≤ 10 ∧ ∀ p, p < m → Q 2 p = some (kp p) ∧ pnc a I J Q (kp p) (Kd p) (S p) (X p) (Y p) (T p) (kf p) (C p) (Wd p) (Hd p)
theorem pnc_of {a : hA} {I I' : hI} {J : hJ} {Q : hQ} {k kind s x y th kf c w h : Nat} (hp : pnc a I J Q k kind s x y th kf c w h) (h1 : I' k = I k) (h2 : I' kf = I kf) : pnc a I' J Q k kind s x y th kf c w h := by
  obtain ⟨a1, a2, a3, a4, a5, a6, a7, a8, a9⟩ := hp
  exact ⟨a1, a2, by rw [h1]; exact a3, by rw [h1]; exact a4, by rw [h1]; exact a5, by rw [h1]; exact a6, by rw [h1]; exact a7, a8, shw_of a9 h2⟩
theorem cpn_of {a : hA} {I I' : hI} {J : hJ} {Q : hQ} {m : Nat} {kp kf S X Y C T Kd Wd Hd : Nat → Nat} (h : cpn a I J Q m kp kf S X Y C T Kd Wd Hd) (h0 : I' 0 10 = I 0 10) (hk : ∀ k, 60 ≤ k → I' k = I k) (hf : ∀ p, p < m → 60 ≤ kf p) : cpn a I' J Q m kp kf S X Y C T Kd Wd Hd := by
  refine ⟨by rw [h0]; exact h.1, h.2.1, fun p hp => ⟨(h.2.2 p hp).1, ?_⟩⟩
  have := (h.2.2 p hp).2
  exact pnc_of this (hk _ this.2.1) (hk _ (hf p hp))
/-- an object that isn't fixed lies behind the fixed ones -/
theorem ob7_big {a : hA} {k : Nat} (h : isOb a k 7) : 60 ≤ k := by
  rcases Nat.lt_or_ge k 60 with hk | hk
  · exfalso
    have h2 := h.2
    unfold tE at h2
    have : ∀ k, k < 60 → ∃ x, tX k = some x ∧ x.1 ≠ 7 := by decide +kernel
    obtain ⟨x, h3, h4⟩ := this k hk
    rw [h3] at h2
    exact h4 h2
  · exact hk
abbrev x_ft : Type := Nat × Nat × Nat × ((Nat → Nat) × (Nat → Nat) × (Nat → Nat) × (Nat → Nat) × (Nat → Nat)) × (Nat → Nat) × (Nat → Nat) × (Nat → Nat) × (Nat → Nat) × (Nat → Nat)
abbrev e_ft : x_ft → List Value := fun x => [.ref 0, .int (nI x.1)]
theorem v_ft (n : Nat) (h : 2 ≤ n) (x : x_ft) : okv (e_ft x) ∧ (lvA (e_ft x)).length ≤ n := ⟨okv_ref (okv_int okv_nil), h⟩
abbrev cpX (a : hA) (I : hI) (J : hJ) (Q : hQ) (m : Nat) (y : ((Nat → Nat) × (Nat → Nat) × (Nat → Nat) × (Nat → Nat) × (Nat → Nat)) × (Nat → Nat) × (Nat → Nat) × (Nat → Nat) × (Nat → Nat) × (Nat → Nat)) : Prop := cpn a I J Q m y.1.1 y.1.2.1 y.1.2.2.1 y.1.2.2.2.1 y.1.2.2.2.2 y.2.1 y.2.2.1 y.2.2.2.1 y.2.2.2.2.1 y.2.2.2.2.2
abbrev i_isPunch : ev := (2, 9, false, 0, 0, inl false 0 0 [e_within] false true kX9_isPunch 2)
theorem c_isPunch9 {l : Launch} : CX l cdX9_isPunch i_isPunch := cm_inl RX9 edX9_isPunch [e_within] false true kX9_isPunch cwX9_isPunch okX9_isPunch ⟨⟨_, rfl, c_within⟩, trivial⟩ (by decide) rfl (fun h => Bool.noConfusion h)
abbrev i_punchAt : ev := (2, 9, false, 0, 0, inl false 0 0 [i_isPunch] false false kX9_punchAt 2)
theorem c_punchAt {l : Launch} : CX l cdX9_punchAt i_punchAt := cm_inl RX9 edX9_punchAt [i_isPunch] false false kX9_punchAt cwX9_punchAt okX9_punchAt ⟨⟨_, rfl, c_isPunch9⟩, trivial⟩ (by decide) rfl (fun h => Bool.noConfusion h)
set_option maxRecDepth 20000 in
/-- punchAt of a number that is told -/
theorem zz_punchAt {p m : Nat} {a : hA} {I : hI} {J : hJ} {Q : hQ} {K : hR} {kp : Nat} (hm : I 0 10 = nI m) (hm10 : m ≤ 10) (hp : p < m) (hq : Q 2 p = some kp) (h : K (some (.ref kp)) a I J Q) : i_punchAt.2.2.2.2.2 [.ref 0, .int (nI p)] a I J Q K := by
  have hwi : wi (nI p) 0 (nI m - 1) = true := by
    obtain ⟨m', rfl⟩ : ∃ m', m = m' + 1 := ⟨m - 1, by omega⟩
    rw [nI_pred]
    exact wi_in (nI_pos (by omega)) (nI_nlt (by omega) (by omega))
  have hw2 : bI (wi (nI p) 0 (I 0 10 - 1)) = 1 := by rw [hm, hwi]; rfl
  have hqe : qE qX Q 2 (nI p).toNatClampNeg = some kp := by
    rw [nI_clamp (by omega)]
    exact hq
  refine Exists.intro (nI p, 0, I 0 10 - 1) (And.intro rfl (And.intro trivial ?_))
  refine And.intro (bI_01 _) ?_
  refine And.intro (fun (c : bI (wi (nI p) 0 (I 0 10 - 1)) = 0) => absurd c (by rw [hw2]; decide)) (fun _ => ?_)
  refine And.intro (show vp_in (nI p) 10 from vp_in_nI (by omega) (by decide)) ?_
  rw [hqe]
  exact h
def e_fitTo : ev := (2, 9, false, 0, 0, sn e_ft (fun x a I J Q => x.1 < x.2.1 ∧ cpX a I J Q x.2.1 x.2.2.2 ∧ I 0 13 = nI x.2.2.1 ∧ x.2.2.1 ≤ 4) (fun x _ I J Q v I' J' Q' => J' = J ∧ Q' = Q ∧ fr I I' [12] ∧ ∃ F, v = some (.int (nI F)) ∧ F < 2 ^ x.2.1 ∧ ∀ q, F.testBit q = true ↔ (q < x.2.1 ∧ q ≠ x.1 ∧ wal x.2.2.2.2.1 x.2.2.2.1.2.2.2.1 x.2.2.2.1.2.2.2.2 x.2.2.1 x.1 q)))
set_option maxRecDepth 20000 in
theorem c_fitTo {l : Launch} : CX l cdX9_fittingTo e_fitTo := by
  refine cm_sn RX9 edX9_fittingTo [i_punchAt, e_grow, e_walled9] false kX9_fittingTo cwX9_fittingTo okX9_fittingTo ⟨⟨_, rfl, c_punchAt⟩, ⟨_, rfl, c_grow⟩, ⟨_, rfl, c_walled9⟩, trivial⟩ (by decide) rfl (v_ft _ (by decide)) ?_
  intro um zm G Rt ⟨p, m, g, ⟨kp, kf, S, X, Y⟩, C, T, Kd, Wd, Hd⟩ a I J Q cl hb hp hR
  obtain ⟨hpm, hc, hg13, hg⟩ := hp
  have hpm : p < m := hpm
  have hc : cpn a I J Q m kp kf S X Y C T Kd Wd Hd := hc
  have hg13 : I 0 13 = nI g := hg13
  have hg : g ≤ 4 := hg
  have hR : ∀ v I' J' Q', (J' = J ∧ Q' = Q ∧ fr I I' [12] ∧ ∃ F, v = some (Value.int (nI F)) ∧ F < 2 ^ m ∧ ∀ q, F.testBit q = true ↔ (q < m ∧ q ≠ p ∧ wal C X Y g p q)) → Rt v a I' J' Q' := hR
  obtain ⟨h10, hm, hall⟩ := id hc
  have hpp := (hall p hpm).2
  have hkf : ∀ q, q < m → 60 ≤ kf q := fun q hq => ob7_big (hall q hq).2.2.2.2.2.2.2.2.2.1.1
  have hqf : qE qX Q (kp p) 5 = some (kf p) := by rw [qE_big hpp.2.1]; exact hpp.2.2.2.2.2.2.2.1
  have h2m : 2 ^ m ≤ 2 ^ 10 := Nat.pow_le_pow_right (by decide) hm
  have loop : ∀ d q F (v5 : Option Value) I', d + q = m → F < 2 ^ m → (∀ r, F.testBit r = true ↔ (r < q ∧ r ≠ p ∧ wal C X Y g p r)) → grown 12 I I' (C p) g → G 32 [some (.ref 0), some (.int (nI p)), some (.ref (kp p)), some (.int (nI F)), some (.int (nI q)), v5] [] a I' J Q := by
    intro d
    induction d with
    | zero =>
      intro q F v5 I' hd hF hbit hgr
      obtain rfl : q = m := by omega
      refine cl [32, 78] 80 32 _ _ _ _ _ _ ?_
      refine And.intro (fun _ => hR _ _ _ _ ⟨rfl, rfl, fun k hk => hgr.1 k (fun e => hk (by rw [e]; exact List.mem_singleton.mpr rfl)), F, rfl, hF, hbit⟩) (fun (h : ¬ I' 0 10 ≤ nI q) => absurd (by rw [hgr.1 0 (by decide), h10]; exact nI_le (Nat.le_refl _) (by omega)) h)
    | succ d ih =>
      intro q F v5 I' hd hF hbit hgr
      have hqm : q < m := by omega
      have hqq := (hall q hqm)
      have hqe : qE qX Q 2 (nI q).toNatClampNeg = some (kp q) := by rw [nI_clamp (by omega)]; exact hqq.1
      have g78 : ∀ F2 (v5 : Option Value), F2 < 2 ^ m → (∀ r, F2.testBit r = true ↔ (r < q + 1 ∧ r ≠ p ∧ wal C X Y g p r)) → G 78 [some (.ref 0), some (.int (nI p)), some (.ref (kp p)), some (.int (nI F2)), some (.int (nI q)), v5] [] a I' J Q := by
        intro F2 v5 hF2 hb2
        refine cl [32, 78] 80 78 _ _ _ _ _ _ ?_
        have := ih (q + 1) F2 v5 I' (by omega) hF2 hb2 hgr
        rw [← nI_1 q] at this
        exact this
      have hskip : (q = p ∨ ¬ wal C X Y g p q) → ∀ r, F.testBit r = true ↔ (r < q + 1 ∧ r ≠ p ∧ wal C X Y g p r) := fun hs r => by
        rw [hbit]
        constructor
        · rintro ⟨h1, h2⟩; exact ⟨by omega, h2⟩
        · rintro ⟨h1, h2, h3⟩
          by_cases e : r = q
          · subst e
            rcases hs with hs | hs
            · exact absurd hs h2
            · exact absurd h3 hs
          · exact ⟨by omega, h2, h3⟩
      refine cl [32, 78] 80 32 _ _ _ _ _ _ ?_
      refine And.intro (fun (h : I' 0 10 ≤ nI q) => absurd h (by rw [hgr.1 0 (by decide), h10]; exact nI_ge hqm (by omega))) (fun _ => And.intro (show vp_in (nI q) 10 from vp_in_nI (by omega) (by decide)) ?_)
      rw [hqe]
      refine And.intro (fun (h : nI q = nI p) => ?_) (fun (h : ¬ nI q = nI p) => ?_)
      · rw [nI_eq (by omega) (by omega)] at h
        exact g78 F _ hF (hskip (Or.inl h))
      · rw [nI_eq (by omega) (by omega)] at h
        have hk12 : ∀ k, 60 ≤ k → I' k = I k := fun k hk => hgr.1 k (by omega)
        have hpp' := pnc_of hpp (hk12 _ hpp.2.1) (hk12 _ (hkf p hpm))
        have hqq' := pnc_of hqq.2 (hk12 _ hqq.2.2.1) (hk12 _ (hkf q hqm))
        have hsp := hpp.2.2.2.2.2.2.2.2
        have hsq := hqq.2.2.2.2.2.2.2.2.2
        have hni := nearB_iff (c1 := C p) (c2 := C q) (w2 := Wd q) (h2 := Hd q) (g := g) (dx := (X q : Int) - X p) (dy := (Y q : Int) - Y p) hsp.1.2.2 hsq.1.2.2 hsq.2.2.2.1 hsq.2.2.2.2.2.1 hsq.2.2.2.2.2.2.2 hg
        refine Exists.intro ((kp p, Kd p, S p, X p, Y p, T p, kf p, C p, Wd p, Hd p), (kp q, Kd q, S q, X q, Y q, T q, kf q, C q, Wd q, Hd q), g) (And.intro rfl (And.intro ⟨hpp', hqq', hg, hgr.2⟩ ?_))
        refine bI_cases' (!nearB (grN (C p) g) (C q) (Wd q) (Hd q) ((X q : Int) - X p) ((Y q : Int) - Y p)) (fun hn => ?_) (fun hn => ?_)
        · have hw : wal C X Y g p q := fun hcl => by
            rw [hni.mpr hcl] at hn
            cases hn
          have h2q : (2 : Nat) ^ q < 2 ^ m := Nat.pow_lt_pow_right (by decide) hqm
          have := g78 (F ||| 2 ^ q) (some (.ref (kp q))) (or_bnd hF h2q) (fun r => by
            rw [Nat.testBit_or, Nat.testBit_two_pow, Bool.or_eq_true, decide_eq_true_iff, hbit]
            constructor
            · rintro (⟨h1, h2⟩ | rfl)
              · exact ⟨by omega, h2⟩
              · exact ⟨by omega, h, hw⟩
            · rintro ⟨h1, h2⟩
              by_cases e : q = r
              · exact Or.inr e
              · exact Or.inl ⟨by omega, h2⟩)
          rw [← fa_or, ← Nat.one_mul (2 ^ q), ← shlN (v := 1) (i := q) (by omega) (by omega)] at this
          exact this
        · refine g78 F _ hF (hskip (Or.inr (fun hw => ?_)))
          have : nearB (grN (C p) g) (C q) (Wd q) (Hd q) ((X q : Int) - X p) ((Y q : Int) - Y p) = true := by
            cases hx : nearB (grN (C p) g) (C q) (Wd q) (Hd q) ((X q : Int) - X p) ((Y q : Int) - Y p) with
            | true => rfl
            | false => rw [hx] at hn; cases hn
          exact hw (hni.mp this)
  refine cl [32, 78] 80 0 _ _ _ _ _ _ ?_
  refine zz_punchAt h10 hm hpm (hall p hpm).1 ?_
  refine cko (isOb_ck hpp.1) ?_
  rw [hqf]
  refine Exists.intro (true, kf p, C p, g) (And.intro (show [Value.ref 11, .ref (kf p), .int (I 0 13)] = [Value.ref 11, .ref (kf p), .int (nI g)] by rw [hg13]) (And.intro ⟨hpp.2.2.2.2.2.2.2.2.1, hg⟩ ?_))
  rintro v I2 J2 Q2 ⟨rfl, rfl, rfl, hgr⟩
  exact loop m 0 0 none I2 (by omega) (Nat.two_pow_pos m) (fun r => by
    rw [Nat.zero_testBit]
    exact ⟨fun h => (by cases h), fun h => by omega⟩) hgr
/-- there is a least plan -/
theorem pln_ex {m : Nat} {B F : Nat → Nat} (hm : m ≤ 10) (hr : ∃ rk, rkP B rk) : ∃ K f, K ≤ m ∧ plnP m B F K f := by
  obtain ⟨rk, hrk⟩ := hr
  obtain ⟨g0, hg0⟩ := rk_plan (F := F) hm hrk
  obtain ⟨K, ⟨f1, hf1⟩, hKmin⟩ := pk_least (fun K => ∃ f, valP m B F K f) ⟨m, g0, hg0⟩
  have hmin : ∀ K' g, valP m B F K' g → K ≤ K' := fun K' g hg => by
    rcases Nat.lt_or_ge K' K with h | h
    · exact absurd ⟨g, hg⟩ (hKmin K' h)
    · exact h
  have hKm := hmin m g0 hg0
  obtain ⟨n, ⟨f, hf, hfn⟩, hn⟩ := pk_least (fun n => ∃ f, valP m B F K f ∧ rowV f m = n) ⟨_, f1, hf1, rfl⟩
  refine ⟨K, f, hKm, hf, fun g hg r hr hag => ?_, hmin⟩
  apply Classical.byContradiction
  intro hlt
  have hlex : lexP g f m := fun r' hr' hag' => by
    rcases Nat.lt_trichotomy r' r with c | c | c
    · rw [hag r' c]
      exact Nat.le_refl _
    · subst c; omega
    · have := hag' r c
      omega
  rcases lexP_row m (fun p hp => by have := hg.1 p hp; omega) hlex with h | h
  · have := h r hr
    omega
  · exact hn (rowV g m) (by omega) ⟨g, hg, rfl⟩
