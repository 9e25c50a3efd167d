/-! REFERENCE: makePlan -/
theorem clash_sym {ca cb w : Nat} {dx dy : Int} (h : clash ca cb w dx dy) : clash cb ca w (-dx) (-dy) := by
  obtain ⟨b1, b2, h1, h2, ⟨h3, h4⟩, ⟨h5, h6⟩⟩ := h
  exact ⟨b2, b1, h2, h1, ⟨by omega, by omega⟩, ⟨by omega, by omega⟩⟩
theorem wal_sym {C X Y : Nat → Nat} {g p q : Nat} (h : wal C X Y g p q) : wal C X Y g q p := fun hc => h (by
  have := clash_sym hc
  rw [show -((X p : Int) - X q) = (X q : Int) - X p by omega, show -((Y p : Int) - Y q) = (Y q : Int) - Y p by omega] at this
  exact this)
theorem tgP_sym {B C X Y : Nat → Nat} {g p q : Nat} (h : tgP B C X Y g p q) : tgP B C X Y g q p := by
  rcases h with h | ⟨h1, h2, h3⟩
  · exact Or.inl h.symm
  · exact Or.inr ⟨h2, h1, wal_sym h3⟩
/-- the masks of the wall -/
def fitP (F : Nat → Nat) (m : Nat) (C X Y : Nat → Nat) (g : Nat) : Prop := ∀ p, p < m → F p < 2 ^ m ∧ ∀ q, (F p).testBit q = true ↔ (q < m ∧ q ≠ p ∧ wal C X Y g p q)
theorem valMP {m K g : Nat} {B M F C X Y f : Nat → Nat} (hm : m ≤ 10) (hB : ∀ p, p < 10 → B p < 2 ^ m) (hB0 : ∀ p, m ≤ p → p < 10 → B p = 0) (hM : mtP M m (tgP B C X Y g)) (hF : fitP F m C X Y g) : valM m B M K f ↔ valP m B F K f := by
  constructor
  · rintro ⟨h1, h2, h3⟩
    refine ⟨h1, h2, fun p q hp hq hpq he => ?_⟩
    have := (((hM p hp).2 q).mp (h3 p q hp hq he)).2
    rcases this with e | ⟨_, _, hw⟩
    · exact absurd e hpq
    · exact ((hF p hp).2 q).mpr ⟨hq, Ne.symm hpq, hw⟩
  · rintro ⟨h1, h2, h3⟩
    have hlt : ∀ p, p < 10 → B p < 1024 := fun p hp => Nat.lt_of_lt_of_le (hB p hp) (show 2 ^ m ≤ 2 ^ 10 from Nat.pow_le_pow_right (by decide) hm)
    have hrk : rkP B f := fun p q hp hb => by
      by_cases c : p < m
      · exact h2 p q c (bit_lt (hB p hp) hb) hb
      · rw [hB0 p (by omega) hp, Nat.zero_testBit] at hb
        cases hb
    refine ⟨h1, h2, fun p q hp hq he => ((hM p hp).2 q).mpr ⟨hq, ?_⟩⟩
    by_cases e : p = q
    · exact Or.inl e
    · refine Or.inr ⟨?_, ?_, (((hF p hp).2 q).mp (h3 p q hp hq e he)).2.2⟩
      · cases hc : mustN B q p with
        | false => rfl
        | true => have := rk_must hlt hrk (by omega) hc; omega
      · cases hc : mustN B p q with
        | false => rfl
        | true => have := rk_must hlt hrk (by omega) hc; omega
abbrev x_mp : Type := (Nat × Nat) × (Nat → Nat) × (Nat → Nat) × (Nat → Nat) × (Nat → Nat) × (Nat → Nat) × (Nat → Nat)
abbrev e_mp : x_mp → List Value := fun _ => [.ref 31]
theorem v_mp (n : Nat) (h : 1 ≤ n) (x : x_mp) : okv (e_mp x) ∧ (lvA (e_mp x)).length ≤ n := ⟨okv_ref okv_nil, h⟩
/-- the plan of the reference -/
def plnP (m : Nat) (B F : Nat → Nat) (K : Nat) (f : Nat → Nat) : Prop := valP m B F K f ∧ (∀ g, valP m B F K g → lexP f g m) ∧ ∀ K' g, valP m B F K' g → K ≤ K'
def mpPost (I I' : hI) (m : Nat) (B F : Nat → Nat) : Prop := fr I I' [31, 50, 51, 52, 53, 54] ∧ (∀ j, j ≠ 30 → I' 31 j = I 31 j) ∧ ∃ K f, K ≤ m ∧ I' 31 30 = nI K ∧ (∀ p, p < m → I' 52 p = nI (f p)) ∧ plnP m B F K f
def mpPre (I : hI) (m g : Nat) (B S X Y C F : Nat → Nat) : Prop := plR I m g B S X Y C ∧ (∀ p, m ≤ p → p < 10 → B p = 0) ∧ (∃ rk, rkP B rk) ∧ fitP F m C X Y g
def e_mkPlan : ev := (1, 10, false, 0, 0, sn e_mp (fun x _ I _ _ => mpPre I x.1.1 x.1.2 x.2.1 x.2.2.1 x.2.2.2.1 x.2.2.2.2.1 x.2.2.2.2.2.1 x.2.2.2.2.2.2) (fun x _ I J Q v I' J' Q' => v = none ∧ J' = J ∧ Q' = Q ∧ mpPost I I' x.1.1 x.2.1 x.2.2.2.2.2.2))
set_option maxRecDepth 20000 in
theorem c_mkPlan {l : Launch} : CX l cdX10_makePlan e_mkPlan := by
  refine cm_sn RX10 edX10_makePlan [e_mates, e_fewest, e_bounds, e_mayBe] false kX10_makePlan cwX10_makePlan okX10_makePlan ⟨⟨_, rfl, c_mates⟩, ⟨_, rfl, c_fewest⟩, ⟨_, rfl, c_bounds⟩, ⟨_, rfl, c_mayBe⟩, trivial⟩ (by decide) rfl (v_mp _ (by decide)) ?_
  intro um zm G Rt ⟨⟨m, g⟩, B, S, X, Y, C, F⟩ a I J Q cl hb hp hR
  obtain ⟨hpl, hB0, ⟨rk, hrk⟩, hF⟩ := hp
  have hpl : plR I m g B S X Y C := hpl
  have hB0 : ∀ p, m ≤ p → p < 10 → B p = 0 := hB0
  have hF : fitP F m C X Y g := hF
  have hrk : rkP B rk := hrk
  have hR : ∀ v I' J' Q', (v = none ∧ J' = J ∧ Q' = Q ∧ mpPost I I' m B F) → Rt v a I' J' Q' := hR
  have hl := hpl.1
  have hm := hl.2.1
  have hBm := hl.2.2.2
  have h2m : 2 ^ m ≤ 2 ^ 10 := Nat.pow_le_pow_right (by decide) hm
  have h2p := Nat.two_pow_pos m
  -- the search
  have search : ∀ (M : Nat → Nat) (K : Nat) (I1 : hI) (lo hi : Nat → Nat), mtP M m (tgP B C X Y g) → mtR I1 M m → lawR I1 B m → (∀ p, p < m → I1 53 p = nI (lo p) ∧ I1 54 p = nI (hi p) ∧ hi p < K) → (∀ f, valM m B M K f → ∀ p, p < m → lo p ≤ f p ∧ f p ≤ hi p) → (∃ f, valM m B M K f) → K ≤ 10 → (∀ v I2 (f : Nat → Nat), fr I1 I2 [52] → (∀ p, p < m → I2 52 p = nI (f p)) → valM m B M K f → (∀ h, valM m B M K h → lexP f h m) → v = none → Rt v a I2 J Q) →
      ∀ d p c (f : Nat → Nat) I', d + p = m → 1 ≤ d → fr I1 I' [52] → (∀ q, q < p → I' 52 q = nI (f q) ∧ f q ≤ hi q ∧ mbP B M f q (f q)) → (∀ h, valM m B M K h → (∀ r, r < p → (∀ q, q < r → h q = f q) → f r ≤ h r) ∧ ((∀ q, q < p → h q = f q) → c ≤ h p)) → lo p ≤ c → c ≤ hi p + 1 → I' 52 p = zI ((c : Int) - 1) →
      (∀ I2, p ≠ 0 → fr I1 I2 [52] → (∀ q, q < p - 1 → I2 52 q = nI (f q)) → I2 52 (p - 1) = nI (f (p - 1)) → (∀ h, valM m B M K h → (∀ r, r < p - 1 → (∀ q, q < r → h q = f q) → f r ≤ h r) ∧ ((∀ q, q < p - 1 → h q = f q) → f (p - 1) + 1 ≤ h (p - 1))) → G 58 [some (.ref 31), some (.int (nI (p - 1)))] [] a I2 J Q) → G 58 [some (.ref 31), some (.int (nI p))] [] a I' J Q := by
    intro M K I1 lo hi hM hMR hlR hbd hall hex hK10 hfin d
    have hsym : ∀ p q, p < m → q < m → (M p).testBit q = true → (M q).testBit p = true := fun p q hp hq h => ((hM q hq).2 p).mpr ⟨hp, tgP_sym (((hM p hp).2 q).mp h).2⟩
    induction d with
    | zero => intro p c f I' hd h1; omega
    | succ d ih =>
      intro p c f I' hd _ hf hpre hinv hlo hhi hcur hback
      have hp : p < m := by omega
      have ecp : (nI p).toNatClampNeg = p := nI_clamp (by omega)
      have hinp : vp_in (nI p) 10 := vp_in_nI (by omega) (by decide)
      have hbp := hbd p hp
      -- candidates from c on
      have cand : ∀ e c I', e + c = hi p + 1 → lo p ≤ c → fr I1 I' [52] → (∀ q, q < p → I' 52 q = nI (f q)) → (∀ h, valM m B M K h → (∀ r, r < p → (∀ q, q < r → h q = f q) → f r ≤ h r) ∧ ((∀ q, q < p → h q = f q) → c ≤ h p)) → I' 52 p = nI c → G 76 [some (.ref 31), some (.int (nI p))] [] a I' J Q := by
        intro e
        induction e with
        | zero =>
          intro c I' he hlc hf hq hinv hcur
          have e1 : I' 52 (nI p).toNatClampNeg = nI c := by rw [ecp]; exact hcur
          have e2 : I' 54 (nI p).toNatClampNeg = nI (hi p) := by rw [ecp, hf 54 (by decide)]; exact hbp.2.1
          have hKp := hbp.2.2
          refine cl [58, 76, 118] 80 76 _ _ _ _ _ _ ?_
          refine And.intro hinp (And.intro hinp (And.intro (fun (h : I' 54 (nI p).toNatClampNeg < I' 52 (nI p).toNatClampNeg) => ?_) (fun (h : ¬ I' 54 (nI p).toNatClampNeg < I' 52 (nI p).toNatClampNeg) => absurd (by rw [e1, e2]; exact nI_lt (by omega) (by omega)) h)))
          refine cl [58, 76] 80 118 _ _ _ _ _ _ ?_
          refine And.intro hinp (And.intro hinp (And.intro (fun (h2 : I' 52 (nI p).toNatClampNeg ≤ I' 54 (nI p).toNatClampNeg) => ?_) (fun _ => ?_)))
          · rw [e1, e2, nI_leI (by omega) (by omega)] at h2
            omega
          · have hnone : ∀ h, valM m B M K h → ¬ (∀ q, q < p → h q = f q) := fun h hv hag => by
              have h1 := (hinv h hv).2 hag
              have h2 := (hall h hv p hp).2
              omega
            have hp0 : p ≠ 0 := fun e => by
              obtain ⟨h, hv⟩ := hex
              exact hnone h hv (fun q hq => by omega)
            obtain ⟨k, rfl⟩ : ∃ k, p = k + 1 := ⟨p - 1, by omega⟩
            have := hback I' hp0 hf (fun q hq2 => hq q (by omega)) (hq _ (by omega)) (fun h hv => ⟨fun r hr hag => (hinv h hv).1 r (by omega) hag, fun hag => by
              have h1 := (hinv h hv).1 (k + 1 - 1) (by omega) hag
              have h2 : h (k + 1 - 1) ≠ f (k + 1 - 1) := fun e => hnone h hv (fun q hq3 => by
                by_cases e2 : q = k + 1 - 1
                · rw [e2]; exact e
                · exact hag q (by omega))
              omega⟩)
            rw [show k + 1 - 1 = k from rfl, ← pk_m1 k] at this
            exact this
        | succ e ihe =>
          intro c I' he hlc hf hq hinv hcur
          have e1 : I' 52 (nI p).toNatClampNeg = nI c := by rw [ecp]; exact hcur
          have e2 : I' 54 (nI p).toNatClampNeg = nI (hi p) := by rw [ecp, hf 54 (by decide)]; exact hbp.2.1
          have hKp := hbp.2.2
          refine cl [58, 76, 118] 80 76 _ _ _ _ _ _ ?_
          refine And.intro hinp (And.intro hinp (And.intro (fun (h : I' 54 (nI p).toNatClampNeg < I' 52 (nI p).toNatClampNeg) => absurd h (by rw [e1, e2]; exact nI_nlt (by omega) (by omega))) (fun _ => And.intro hinp ?_)))
          refine Exists.intro ((p, c), m, B, M, f) (And.intro (show [Value.ref 31, .int (nI p), .int (I' 52 (nI p).toNatClampNeg)] = [Value.ref 31, .int (nI p), .int (nI c)] by rw [e1]) (And.intro ⟨⟨hp, (show c < 1000 by omega)⟩, lawR_fr hlR hf (by decide) (by decide), mtR_fr hMR hf (by decide), fun q hq2 => ⟨hq q hq2, by have hq3 : q < p := hq2; have := (hpre q hq3).2.1; have := (hbd q (by omega)).2.2; show f q < 1000; omega⟩⟩ ?_))
          rintro v I2 J2 Q2 ⟨rfl, rfl, rfl, b, rfl, hbm⟩
          have hbm : b = true ↔ mbP B M f p c := hbm
          -- candidate c + 1 at the inner loop, and at the outer one
          have next : ∀ I3, fr I1 I3 [52] → (∀ q, q < p → I3 52 q = nI (f q)) → (∀ h, valM m B M K h → (∀ r, r < p → (∀ q, q < r → h q = f q) → f r ≤ h r) ∧ ((∀ q, q < p → h q = f q) → c + 1 ≤ h p)) → I3 52 p = nI (c + 1) → G 76 [some (.ref 31), some (.int (nI p))] [] a I3 J2 Q2 := fun I3 g1 g2 g3 g4 => ihe (c + 1) I3 (by omega) (by omega) g1 g2 g3 g4
          refine bI_cases b (fun hbt => ?_) (fun hbf => ?_)
          · have hmb := hbm.mp hbt
            refine cl [58, 76] 80 118 _ _ _ _ _ _ ?_
            refine And.intro hinp (And.intro hinp (And.intro (fun _ => ?_) (fun (h2 : ¬ I2 52 (nI p).toNatClampNeg ≤ I2 54 (nI p).toNatClampNeg) => absurd (by rw [e1, e2]; exact nI_le (by omega) (by omega)) h2)))
            -- f with c at p
            obtain ⟨fc, hfc, hfp⟩ : ∃ fc : Nat → Nat, (∀ q, q < p → fc q = f q) ∧ fc p = c := ⟨fun z => if z = p then c else f z, fun q hq2 => if_neg (by omega), if_pos rfl⟩
            have hmbc : ∀ q, q < p + 1 → mbP B M fc q (fc q) := fun q hq2 => by
              by_cases eq : q = p
              · subst eq
                rw [hfp]
                intro r hr
                rw [hfc r hr]
                exact hmb r hr
              · rw [hfc q (by omega)]
                intro r hr
                rw [hfc r (by omega)]
                exact (hpre q (by omega)).2.2 r hr
            have hinv2 : ∀ h, valM m B M K h → ∀ r, r < p + 1 → (∀ q, q < r → h q = fc q) → fc r ≤ h r := fun h hv r hr hag => by
              have hag2 : ∀ q, q < r → h q = f q := fun q hq2 => (hag q hq2).trans (hfc q (by omega))
              by_cases er : r = p
              · subst er
                rw [hfp]
                exact (hinv h hv).2 hag2
              · rw [hfc r (by omega)]
                exact (hinv h hv).1 r (by omega) hag2
            have hcells : ∀ q, q < p + 1 → I2 52 q = nI (fc q) := fun q hq2 => by
              by_cases eq : q = p
              · subst eq; rw [hfp]; exact hcur
              · rw [hfc q (by omega)]; exact hq q (by omega)
            refine And.intro (fun (h2 : I2 31 19 ≤ nI p + 1) => ?_) (fun (h2 : ¬ I2 31 19 ≤ nI p + 1) => ?_)
            · have e19 : I2 31 19 = nI m := by rw [hf 31 (by decide)]; exact hlR.1
              rw [e19, nI_1, nI_leI (by omega) (by omega)] at h2
              have hpm : p + 1 = m := by omega
              refine cl [76] 80 58 _ _ _ _ _ _ ?_
              refine And.intro (fun _ => ?_) (fun (h3 : ¬ I2 31 19 ≤ nI p + 1) => absurd (by rw [e19, nI_1]; exact nI_le (by omega) (by omega)) h3)
              refine hfin none I2 fc hf (fun q hq2 => hcells q (by omega)) ⟨fun q hq2 => ?_, fun x y hx hy hb2 => ?_, fun x y hx hy he => ?_⟩ (fun h hv r hr hag => hinv2 h hv r (by omega) hag) rfl
              · by_cases eq : q = p
                · subst eq; rw [hfp]; omega
                · rw [hfc q (by omega)]
                  have := (hpre q (by omega)).2.1
                  have := (hbd q hq2).2.2
                  omega
              · rcases Nat.lt_trichotomy y x with c1 | c1 | c1
                · exact ((hmbc x (by omega)) y c1).2.1 hb2
                · subst c1
                  have := hrk y y (by omega) hb2
                  omega
                · exact ((hmbc y (by omega)) x c1).2.2 hb2
              · rcases Nat.lt_trichotomy y x with c1 | c1 | c1
                · exact ((hmbc x (by omega)) y c1).1 he.symm
                · subst c1
                  exact ((hM y hy).2 y).mpr ⟨hy, Or.inl rfl⟩
                · exact hsym y x hy hx (((hmbc y (by omega)) x c1).1 he)
            · have e19 : I2 31 19 = nI m := by rw [hf 31 (by decide)]; exact hlR.1
              rw [e19, nI_1, nI_leI (by omega) (by omega)] at h2
              have hp1 : p + 1 < m := by omega
              have ecp1 : (nI p + 1).toNatClampNeg = p + 1 := by rw [nI_1]; exact nI_clamp (by omega)
              have hinp1 : vp_in (nI p + 1) 10 := by rw [nI_1]; exact vp_in_nI (by omega) (by decide)
              have elo : I2 53 (nI p + 1).toNatClampNeg - 1 = zI ((lo (p + 1) : Int) - 1) := by
                rw [ecp1, hf 53 (by decide), (hbd (p + 1) hp1).1, zI_nat, show (1 : Int32) = zI 1 from rfl, zI_sub]
              have hlh : lo (p + 1) ≤ hi (p + 1) := by
                obtain ⟨h, hv⟩ := hex
                have := hall h hv (p + 1) hp1
                omega
              refine And.intro hinp1 (And.intro hinp1 ?_)
              have := ih (p + 1) (lo (p + 1)) fc (up2 I2 52 (nI p + 1).toNatClampNeg (I2 53 (nI p + 1).toNatClampNeg - 1)) (by omega) (by omega) (fr_up hf (by decide)) (fun q hq2 => ⟨by rw [ecp1, up2_nej (by omega)]; exact hcells q hq2, by
                by_cases eq : q = p
                · subst eq; rw [hfp]; omega
                · rw [hfc q (by omega)]; exact (hpre q (by omega)).2.1, hmbc q hq2⟩) (fun h hv => ⟨hinv2 h hv, fun _ => (hall h hv (p + 1) hp1).1⟩) (Nat.le_refl _) (by omega) (by rw [elo, ecp1, up2_at]) (fun I3 _ g1 g2 g3 g4 => ?_)
              · rw [← nI_1 p] at this
                exact this
              · -- back at this level: the next candidate
                have e3 : p + 1 - 1 = p := rfl
                rw [e3] at g2 g3 g4
                have g3' : I3 52 p = nI c := by rw [g3]; exact congrArg nI hfp
                rw [e3]
                have e4 : I3 52 (nI p).toNatClampNeg + 1 = nI (c + 1) := by rw [ecp, g3', nI_1]
                refine cl [76] 80 58 _ _ _ _ _ _ ?_
                refine And.intro (fun (h3 : I3 31 19 ≤ nI p) => absurd h3 (by rw [g1 31 (by decide), hlR.1]; exact nI_ge hp (by omega))) (fun _ => And.intro hinp (And.intro hinp ?_))
                exact next (up2 I3 52 (nI p).toNatClampNeg (I3 52 (nI p).toNatClampNeg + 1)) (fr_up g1 (by decide)) (fun q hq2 => by rw [ecp, up2_nej (by omega), g2 q hq2]; exact congrArg nI (hfc q hq2)) (fun h hv => ⟨(hinv h hv).1, fun hag => by
                  have := (g4 h hv).2 (fun q hq2 => (hag q hq2).trans (hfc q hq2).symm)
                  rw [hfp] at this
                  exact this⟩) (by rw [e4, ecp, up2_at])
          · have e4 : I2 52 (nI p).toNatClampNeg + 1 = nI (c + 1) := by rw [e1, nI_1]
            refine And.intro hinp (And.intro hinp ?_)
            exact next (up2 I2 52 (nI p).toNatClampNeg (I2 52 (nI p).toNatClampNeg + 1)) (fr_up hf (by decide)) (fun q hq2 => by rw [ecp, up2_nej (by omega)]; exact hq q hq2) (fun h hv => ⟨(hinv h hv).1, fun hag => by
              have h1 := (hinv h hv).2 hag
              have h2 : h p ≠ c := fun ec => by
                have : mbP B M f p c := fun q hq2 => by
                  rw [← hag q hq2, ← ec]
                  exact ⟨fun hh => hv.2.2 p q hp (by omega) hh.symm, fun hh => hv.2.1 p q hp (by omega) hh, fun hh => hv.2.1 q p (by omega) hp hh⟩
                rw [hbm.mpr this] at hbf
                cases hbf
              omega⟩) (by rw [e4, ecp, up2_at])
      have e19 : I' 31 19 = nI m := by rw [hf 31 (by decide)]; exact hlR.1
      have e4 : I' 52 (nI p).toNatClampNeg + 1 = nI c := by
        rw [ecp, hcur, show (1 : Int32) = zI 1 from rfl, zI_add, zI_nat]
        exact congrArg zI (by omega)
      refine cl [76] 80 58 _ _ _ _ _ _ ?_
      refine And.intro (fun (h : I' 31 19 ≤ nI p) => absurd h (by rw [e19]; exact nI_ge hp (by omega))) (fun _ => And.intro hinp (And.intro hinp ?_))
      exact cand (hi p + 1 - c) c (up2 I' 52 (nI p).toNatClampNeg (I' 52 (nI p).toNatClampNeg + 1)) (by omega) hlo (fr_up hf (by decide)) (fun q hq2 => by rw [ecp, up2_nej (by omega)]; exact (hpre q hq2).1) hinv (by rw [e4, ecp, up2_at])
  refine cl [58] 80 0 _ _ _ _ _ _ ?_
  have e19 : up2 I 31 30 0 31 19 = nI m := by rw [up2_nej (by decide)]; exact hl.1
  refine And.intro (fun (h : ¬ up2 I 31 30 0 31 19 = 0) => ?_) (fun (h : up2 I 31 30 0 31 19 = 0) => ?_)
  · rw [e19, show (0 : Int32) = nI 0 from rfl, nI_eq (by omega) (by decide)] at h
    have hpl0 : plR (up2 I 31 30 0) m g B S X Y C := plR_of hpl (by rw [up2_nej (by decide)]) (fun k hk => up2_ne (by simp at hk; rcases hk with rfl | rfl | rfl | rfl | rfl | rfl <;> decide))
    refine Exists.intro (m, g, B, S, X, Y, C) (And.intro rfl (And.intro hpl0 ?_))
    rintro v I2 J2 Q2 ⟨rfl, rfl, rfl, hf2, M, hM1, hM2⟩
    have hM2 : mtP M m (tgP B C X Y g) := hM2
    have hmt : mtR I2 M m := fun p hp => ⟨hM1 p hp, (hM2 p hp).1⟩
    have hl2 : lawR I2 B m := lawR_fr hpl0.1 hf2 (by decide) (by decide)
    refine Exists.intro (m, B, M) (And.intro rfl (And.intro ⟨hl2, hmt⟩ ?_))
    rintro v I3 J3 Q3 ⟨rfl, rfl, rfl, hf3, hfw⟩
    have hfw : ∀ s, s < 2 ^ m → ∃ K, I3 51 s = nI K ∧ fwP B M s K := hfw
    have hl3 : lawR I3 B m := lawR_fr hl2 hf3 (by decide) (by decide)
    have hmt3 : mtR I3 M m := mtR_fr hmt hf3 (by decide)
    obtain ⟨K, hK1, hK2, hK3, hK4⟩ := hfw (2 ^ m - 1) (by omega)
    have hfull : ∀ p, (2 ^ m - 1).testBit p = true ↔ p < m := fun p => by rw [full_bit, decide_eq_true_iff]
    have hfe : ∀ K f, feasM B M (2 ^ m - 1) K f ↔ valM m B M K f := fun K f =>
      ⟨fun h => ⟨fun p hp => h.1 p ((hfull p).mpr hp), fun p q hp hq hb2 => h.2.1 p q ((hfull p).mpr hp) ((hfull q).mpr hq) hb2, fun p q hp hq he => h.2.2 p q ((hfull p).mpr hp) ((hfull q).mpr hq) he⟩,
       fun h => ⟨fun p hp => h.1 p ((hfull p).mp hp), fun p q hp hq hb2 => h.2.1 p q ((hfull p).mp hp) ((hfull q).mp hq) hb2, fun p q hp hq he => h.2.2 p q ((hfull p).mp hp) ((hfull q).mp hq) he⟩⟩
    have hvm : ∀ K f, valM m B M K f ↔ valP m B F K f := fun K f => valMP hm hBm hB0 hM2 hF
    obtain ⟨g0, hg0⟩ := rk_plan (F := F) hm hrk
    have hKm : K ≤ m := hK4 m g0 ((hfe m g0).mpr ((hvm m g0).mpr hg0))
    have hex : ∃ f, valM m B M K f := by
      rcases hK2 with e | ⟨f, hf'⟩
      · omega
      · exact ⟨f, (hfe K f).mp hf'⟩
    obtain ⟨f0, hf0⟩ := hex
    have hKpos : 1 ≤ K := by have := hf0.1 0 (by omega); omega
    have e1m : (1 : Int32) <<< (I3 31 19 &&& 31) - 1 = nI (2 ^ m - 1) := by
      rw [hl3.1, show (1 : Int32) = nI 1 from rfl, shlN (by omega) (by omega), Nat.one_mul, pk_sub h2p]
    have ecm : ((1 : Int32) <<< (I3 31 19 &&& 31) - 1).toNatClampNeg = 2 ^ m - 1 := by rw [e1m]; exact nI_clamp (by omega)
    refine And.intro (show vp_in ((1 : Int32) <<< (I3 31 19 &&& 31) - 1) 1024 from by rw [e1m]; exact vp_in_nI (by omega) (by decide)) ?_
    have e30 : up2 I3 31 30 (I3 51 ((1 : Int32) <<< (I3 31 19 &&& 31) - 1).toNatClampNeg) 31 30 = nI K := by rw [up2_at, ecm]; exact hK1
    have hl4 : lawR (up2 I3 31 30 (I3 51 ((1 : Int32) <<< (I3 31 19 &&& 31) - 1).toNatClampNeg)) B m := ⟨by rw [up2_nej (by decide)]; exact hl3.1, hl3.2.1, fun p hp => by rw [up2_ne (by decide)]; exact hl3.2.2.1 p hp, hl3.2.2.2⟩
    have hmt4 : mtR (up2 I3 31 30 (I3 51 ((1 : Int32) <<< (I3 31 19 &&& 31) - 1).toNatClampNeg)) M m := fun p hp => by rw [up2_ne (by decide)]; exact hmt3 p hp
    refine Exists.intro (m, B, M, K, f0) (And.intro rfl (And.intro ⟨hl4, ⟨e30, hKpos, (show K ≤ 100 by omega)⟩, hf0⟩ ?_))
    rintro v I4 J4 Q4 ⟨rfl, rfl, rfl, hf4, lo, hi, hbd, hall⟩
    have hbd : ∀ p, p < m → I4 53 p = nI (lo p) ∧ I4 54 p = nI (hi p) ∧ hi p < K := hbd
    have hall : ∀ f, valM m B M K f → ∀ p, p < m → lo p ≤ f p ∧ f p ≤ hi p := hall
    have hin0 : vp_in 0 10 := vp_in_nI (n := 0) (by decide) (by decide)
    refine And.intro hin0 (And.intro hin0 ?_)
    have elo : I4 53 ((0 : Int32)).toNatClampNeg - 1 = zI ((lo 0 : Int) - 1) := by
      rw [show ((0 : Int32)).toNatClampNeg = 0 from rfl, (hbd 0 (by omega)).1, zI_nat, show (1 : Int32) = zI 1 from rfl, zI_sub]
    have h0 := hall f0 hf0 0 (by omega)
    have := search M K I4 lo hi hM2 (mtR_fr hmt4 hf4 (by decide)) (lawR_fr hl4 hf4 (by decide) (by decide)) hbd hall ⟨f0, hf0⟩ (by omega) (fun v I5 f h1 h2 h3 h4 h5 => ?_) m 0 (lo 0) (fun _ => 0) (up2 I4 52 0 (I4 53 ((0 : Int32)).toNatClampNeg - 1)) (by omega) (by omega) (fr_up (fr_refl _ _) (by decide)) (fun q hq => by omega) (fun h hv => ⟨fun r hr => by omega, fun _ => (hall h hv 0 (by omega)).1⟩) (Nat.le_refl _) (by omega) (by rw [up2_at]; exact elo) (fun I5 hne => absurd rfl hne)
    · exact this
    · refine hR _ _ _ _ ⟨h5, rfl, rfl, fun k hk => ?_, fun j hj => ?_, K, f, hKm, ?_, h2, (hvm K f).mp h3, fun h hv => h4 h ((hvm K h).mpr hv), fun K' h hv => hK4 K' h ((hfe K' h).mpr ((hvm K' h).mpr hv))⟩
      · simp only [List.mem_cons, List.not_mem_nil, not_or] at hk
        rw [h1 k (by simp only [List.mem_cons, List.not_mem_nil, not_or]; exact ⟨hk.2.2.2.1, id⟩), hf4 k (by simp only [List.mem_cons, List.not_mem_nil, not_or]; exact ⟨hk.2.2.2.2.1, hk.2.2.2.2.2.1, id⟩), up2_ne hk.1, hf3 k (by simp only [List.mem_cons, List.not_mem_nil, not_or]; exact ⟨hk.2.2.1, id⟩), hf2 k (by simp only [List.mem_cons, List.not_mem_nil, not_or]; exact ⟨hk.2.1, id⟩), up2_ne hk.1]
      · rw [h1 31 (by decide), hf4 31 (by decide), up2_nej hj, hf3 31 (by decide), hf2 31 (by decide), up2_nej hj]
      · rw [h1 31 (by decide), hf4 31 (by decide)]; exact e30
  · rw [e19, show (0 : Int32) = nI 0 from rfl, nI_eq (by omega) (by decide)] at h
    subst h
    refine hR _ _ _ _ ⟨rfl, rfl, rfl, fr_up (fr_refl _ _) (by decide), fun j hj => up2_nej hj, 0, fun _ => 0, Nat.le_refl _, up2_at, fun p hp => by omega, ⟨fun p hp => by omega, fun p q hp => by omega, fun p q hp => by omega⟩, fun h _ r hr => by omega, fun K' h _ => Nat.zero_le _⟩
