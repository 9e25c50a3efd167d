/-! REFERENCE: slit itself -/
theorem way3 {w0 w1 w2 j c : Nat} : addP w2 (addP w1 (addP w0 P00)) j c ↔ ∃ n0 n1 n2, wyN w0 w1 w2 j n0 n1 n2 ∧ c = n0 + n1 + n2 := by
  constructor
  · rintro ⟨n2, a1, a2, a3, n1, b1, b2, b3, n0, c1, c2, c3, d1, d2⟩
    exact ⟨n0, n1, n2, ⟨by omega, c1, b1, a1⟩, by omega⟩
  · rintro ⟨n0, n1, n2, ⟨e, g0, g1, g2⟩, rfl⟩
    exact ⟨n2, g2, by omega, by omega, n1, g1, by omega, by omega, n0, g0, by omega, by omega, by omega, by omega⟩
theorem way2 {w1 w2 j c : Nat} : addP w2 (addP w1 P00) j c ↔ ∃ n1 n2, (n1 * w1 + n2 * w2 = j ∧ (w1 = 0 → n1 = 0) ∧ (w2 = 0 → n2 = 0)) ∧ c = n1 + n2 := by
  constructor
  · rintro ⟨n2, a1, a2, a3, n1, b1, b2, b3, d1, d2⟩
    exact ⟨n1, n2, ⟨by omega, b1, a1⟩, by omega⟩
  · rintro ⟨n1, n2, ⟨e, g1, g2⟩, rfl⟩
    exact ⟨n2, g2, by omega, by omega, n1, g1, by omega, by omega, by omega, by omega⟩
abbrev x_sl : Type := Int32 × Int32 × Int32 × Int32 × Int32
abbrev e_sl : x_sl → List Value := fun x => [.ref 31, .int x.1, .int x.2.1, .int x.2.2.1, .int x.2.2.2.1, .int x.2.2.2.2]
theorem v_sl (n : Nat) (h : 6 ≤ n) (x : x_sl) : okv (e_sl x) ∧ (lvA (e_sl x)).length ≤ n := ⟨okv_ref (okv_int (okv_int (okv_int (okv_int (okv_int okv_nil))))), h⟩
def slR (width w0 w1 w2 what : Int32) : Prop := wi width 1 2000 = true ∧ wi w0 0 500 = true ∧ wi w1 0 500 = true ∧ wi w2 0 500 = true ∧ ¬ (w0 + w1 + w2 ≤ 0) ∧ wi what 0 4 = true
def slN (width w0 w1 w2 what filled n0 n1 n2 : Nat) : Prop := (1 ≤ width ∧ width ≤ 2000) ∧ (w0 ≤ 500 ∧ w1 ≤ 500 ∧ w2 ≤ 500) ∧ what ≤ 4 ∧ filled ≤ width ∧ bstW w0 w1 w2 filled n0 n1 n2 ∧ ∀ j, filled < j → j ≤ width → ∀ m0 m1 m2, ¬ wyN w0 w1 w2 j m0 m1 m2
def slP (width w0 w1 w2 what : Int32) (v : Option Value) : Prop := (slR width w0 w1 w2 what → ∃ a b c d e filled n0 n1 n2, (width = nI a ∧ w0 = nI b ∧ w1 = nI c ∧ w2 = nI d ∧ what = nI e) ∧ slN a b c d e filled n0 n1 n2 ∧ v = some (.int (nI (anV a e filled n0 n1 n2)))) ∧ (¬ slR width w0 w1 w2 what → v = some (.int (-2)))
theorem slN_one {width w0 w1 w2 what f n0 n1 n2 f' m0 m1 m2 : Nat} (h : slN width w0 w1 w2 what f n0 n1 n2) (h' : slN width w0 w1 w2 what f' m0 m1 m2) : f = f' ∧ n0 = m0 ∧ n1 = m1 ∧ n2 = m2 := by
  have e : f = f' := by
    rcases Nat.lt_trichotomy f f' with c | c | c
    · exact absurd h'.2.2.2.2.1.1 (h.2.2.2.2.2 f' c h'.2.2.2.1 _ _ _)
    · exact c
    · exact absurd h.2.2.2.2.1.1 (h'.2.2.2.2.2 f c h.2.2.2.1 _ _ _)
  subst e
  exact ⟨rfl, bstW_one h.2.2.2.2.1 h'.2.2.2.2.1⟩
def e_rslit : ev := (6, 10, false, 0, 0, sn e_sl (fun _ _ _ _ _ => True) (fun x _ I J Q v I' J' Q' => J' = J ∧ Q' = Q ∧ fr I I' [58, 59] ∧ slP x.1 x.2.1 x.2.2.1 x.2.2.2.1 x.2.2.2.2 v))
set_option maxRecDepth 20000 in
theorem c_rslit {l : Launch} : CX l cdX10_slit e_rslit := by
  refine cm_sn RX10 edX10_slit [e_within, e_begin, e_addW, e_isRest] false kX10_slit cwX10_slit okX10_slit ⟨⟨_, rfl, c_rwithin⟩, ⟨_, rfl, c_begin⟩, ⟨_, rfl, c_addW⟩, ⟨_, rfl, c_isRest⟩, trivial⟩ (by decide) rfl (v_sl _ (by decide)) ?_
  intro um zm G Rt ⟨W, W0, W1, W2, WT⟩ a I J Q cl hb hp hR
  have hR : ∀ v I' J' Q', (J' = J ∧ Q' = Q ∧ fr I I' [58, 59] ∧ slP W W0 W1 W2 WT v) → Rt v a I' J' Q' := hR
  -- in range
  have core : ∀ width w0 w1 w2 what, W = nI width → W0 = nI w0 → W1 = nI w1 → W2 = nI w2 → WT = nI what → 1 ≤ width → width ≤ 2000 → w0 ≤ 500 → w1 ≤ 500 → w2 ≤ 500 → 0 < w0 + w1 + w2 → what ≤ 4 → slR W W0 W1 W2 WT → G 79 [some (.ref 31), some (.int (nI width)), some (.int (nI w0)), some (.int (nI w1)), some (.int (nI w2)), some (.int (nI what)), some (.int 1), none, none, none, none, none] [] a I J Q := by
    intro width w0 w1 w2 what eW e0 e1 e2 eT hw1 hw2 h0 h1 h2 hsum hwt hr
    refine cl [118] 90 79 _ _ _ _ _ _ ?_
    refine Exists.intro (false, width) (And.intro rfl (And.intro hw2 ?_))
    rintro v Ia Ja Qa ⟨rfl, rfl, rfl, hfa, ta⟩
    refine Exists.intro (false, width, w0, P00) (And.intro rfl (And.intro ⟨hw2, h0, ta⟩ ?_))
    rintro v Ib Jb Qb ⟨rfl, rfl, rfl, hfb, tb⟩
    refine Exists.intro (false, width, w1, addP w0 P00) (And.intro rfl (And.intro ⟨hw2, h1, tb⟩ ?_))
    rintro v Ic Jc Qc ⟨rfl, rfl, rfl, hfc, tc⟩
    refine Exists.intro (false, width, w2, addP w1 (addP w0 P00)) (And.intro rfl (And.intro ⟨hw2, h2, tc⟩ ?_))
    rintro v Id Jd Qd ⟨rfl, rfl, rfl, hfd, td⟩
    have td : tabP (Id 58) (addP w2 (addP w1 (addP w0 P00))) (width + 1) := td
    have hf : fr I Id [58] := fun k hk => by rw [hfd k hk, hfc k hk, hfb k hk, hfa k hk]
    have hf2 : fr I Id [58, 59] := fun k hk => hf k (fun h => hk (by simp at h; rw [h]; decide))
    -- the greatest width that is filled
    have fin : ∀ sum many, sum ≤ width → Id 58 sum = nI many → many ≤ 2000 → (∃ n0 n1 n2, wyN w0 w1 w2 sum n0 n1 n2) → (∀ c', (∃ n0 n1 n2, wyN w0 w1 w2 sum n0 n1 n2 ∧ c' = n0 + n1 + n2) → many ≤ c') → (∃ n0 n1 n2, wyN w0 w1 w2 sum n0 n1 n2 ∧ many = n0 + n1 + n2) → (∀ j, sum < j → j ≤ width → ∀ m0 m1 m2, ¬ wyN w0 w1 w2 j m0 m1 m2) → G 136 [some (.ref 31), some (.int (nI width)), some (.int (nI w0)), some (.int (nI w1)), some (.int (nI w2)), some (.int (nI what)), some (.int 1), some (.int (nI sum)), none, none, none, none] [] a Id Jd Qd := by
      intro sum many hs hcell hmany ⟨m0, m1, m2, hway⟩ hmin hex hnone
      obtain ⟨x, hx, _⟩ := pT_min _ _ _ _ _ _ _ hway
      obtain ⟨b0, b1, b2, hbst, _, hb0, hb1, hb2⟩ := pT_best (by omega) hx
      have hcnt : many = b0 + b1 + b2 := by
        obtain ⟨k0, k1, k2, hk, hke⟩ := hex
        have q1 := hmin _ ⟨b0, b1, b2, hbst.1, rfl⟩
        have q2 := hbst.2 _ _ _ hk
        omega
      have hslN : slN width w0 w1 w2 what sum b0 b1 b2 := ⟨⟨hw1, hw2⟩, ⟨h0, h1, h2⟩, hwt, hs, hbst, hnone⟩
      have hans : ∀ v, v = some (Value.int (nI (anV width what sum b0 b1 b2))) → ∀ I', fr I I' [58, 59] → Rt v a I' Jd Qd := fun v hv I' hf' => hR _ _ _ _ ⟨rfl, rfl, hf', fun _ => ⟨width, w0, w1, w2, what, sum, b0, b1, b2, ⟨eW, e0, e1, e2, eT⟩, hslN, hv⟩, fun h => absurd hr h⟩
      have ecs : (nI sum).toNatClampNeg = sum := nI_clamp (by omega)
      have hins : vp_in (nI sum) 2001 := vp_in_nI (by omega) (by decide)
      have em : Id 58 (nI sum).toNatClampNeg = nI many := by rw [ecs]; exact hcell
      refine cl [207, 256, 285] 90 136 _ _ _ _ _ _ ?_
      refine And.intro hins (And.intro (fun (c : (2 : Int32) ≤ nI what) => ?_) (fun (c : ¬ (2 : Int32) ≤ nI what) => And.intro (fun (c2 : ¬ nI what = 0) => ?_) (fun (c2 : nI what = 0) => ?_)))
      · rw [show (2 : Int32) = nI 2 from rfl, nI_leI (by decide) (by omega)] at c
        refine Exists.intro (true, width) (And.intro rfl (And.intro hw2 ?_))
        rintro v Ie Je Qe ⟨rfl, rfl, rfl, hfe, te⟩
        refine Exists.intro (true, width, w1, P00) (And.intro rfl (And.intro ⟨hw2, h1, te⟩ ?_))
        rintro v Ig Jg Qg ⟨rfl, rfl, rfl, hfg, tg⟩
        refine Exists.intro (true, width, w2, addP w1 P00) (And.intro rfl (And.intro ⟨hw2, h2, tg⟩ ?_))
        rintro v Ih Jh Qh ⟨rfl, rfl, rfl, hfh, th⟩
        have th : tabP (Ih 59) (addP w2 (addP w1 P00)) (width + 1) := th
        have hf3 : fr I Ih [58, 59] := fun k hk => by
          have hk59 : k ∉ [59] := fun h => hk (by simp at h; rw [h]; decide)
          rw [hfh k hk59, hfg k hk59, hfe k hk59]
          exact hf2 k hk
        have em3 : Id 58 (nI sum).toNatClampNeg = nI many := em
        obtain ⟨hbw, hbg0, hbg1, hbg2⟩ := id hbst.1
        -- the answer, with n0 and n1
        have g285 : ∀ v9 v10 v11, v9 = nI b0 → v11 = nI b1 → G 285 [some (.ref 31), some (.int (nI width)), some (.int (nI w0)), some (.int (nI w1)), some (.int (nI w2)), some (.int (nI what)), some (.int 1), some (.int (nI sum)), some (.int (nI many)), some (.int v9), some (.int v10), some (.int v11)] [] a Ih Jh Qh := by
          intro v9 v10 v11 h9 h11
          subst h9 h11
          refine cl [207, 256] 90 285 _ _ _ _ _ _ ?_
          refine And.intro (fun (d : ¬ nI what = 2) => And.intro (fun (d2 : ¬ nI what = 3) => ?_) (fun (d2 : nI what = 3) => ?_)) (fun (d : nI what = 2) => ?_)
          · have w4 : what = 4 := by
              have q2 : what ≠ 2 := fun e => d (by rw [e]; rfl)
              have q3 : what ≠ 3 := fun e => d2 (by rw [e]; rfl)
              omega
            have := hans (some (.int (nI many - nI b0 - nI b1))) (by
              rw [pk_sub (by omega), pk_sub (by omega), show many - b0 - b1 = b2 by omega, w4]
              rfl) Ih hf3
            exact this
          · have w3 : what = 3 := (nI_eq (b := 3) (by omega) (by decide)).mp d2
            exact hans _ (by rw [w3]; rfl) Ih hf3
          · have w2' : what = 2 := (nI_eq (b := 2) (by omega) (by decide)).mp d
            exact hans _ (by rw [w2']; rfl) Ih hf3
        -- n1 from k down
        have l256 : ∀ d k, d + b1 = k → k * w1 ≤ sum - b0 * w0 → (w1 = 0 → k = 0) → G 256 [some (.ref 31), some (.int (nI width)), some (.int (nI w0)), some (.int (nI w1)), some (.int (nI w2)), some (.int (nI what)), some (.int 1), some (.int (nI sum)), some (.int (nI many)), some (.int (nI b0)), some (.int (nI (sum - b0 * w0))), some (.int (nI k))] [] a Ih Jh Qh := by
          intro d
          induction d with
          | zero =>
            intro k hd hk hk0
            obtain rfl : k = b1 := by omega
            refine cl [207, 256, 285] 90 256 _ _ _ _ _ _ ?_
            have ea : nI (sum - b0 * w0) - nI k * nI w1 = nI (sum - b0 * w0 - k * w1) := by rw [pk_mul, pk_sub hk]
            have eb : nI many - nI b0 - nI k = zI ((b2 : Nat) : Int) := by rw [pk_sub (by omega), pk_sub (by omega), zI_nat, show many - b0 - k = b2 by omega]
            refine Exists.intro (sum - b0 * w0 - k * w1, w2, ((b2 : Nat) : Int)) (And.intro (show [Value.int (nI (sum - b0 * w0) - nI k * nI w1), .int (nI w2), .int (nI many - nI b0 - nI k)] = [Value.int (nI (sum - b0 * w0 - k * w1)), .int (nI w2), .int (zI ((b2 : Nat) : Int))] by rw [ea, eb]) (And.intro (show sum - b0 * w0 - k * w1 ≤ 2000 ∧ w2 ≤ 500 ∧ (-5000 ≤ ((b2 : Nat) : Int) ∧ ((b2 : Nat) : Int) ≤ 5000) from ⟨by omega, h2, by omega, by omega⟩) ?_))
            rintro v Ii Ji Qi ⟨rfl, rfl, rfl, b, rfl, hbr⟩
            have hbr : b = true ↔ rstP (sum - b0 * w0 - k * w1) w2 ((b2 : Nat) : Int) := hbr
            have hbt : b = true := hbr.mpr ⟨b2, rfl, by omega, hbg2⟩
            rw [hbt]
            refine And.intro (fun _ => g285 _ _ _ rfl rfl) (fun h => absurd h (by decide))
          | succ d ih =>
            intro k hd hk hk0
            obtain ⟨k', rfl⟩ : ∃ k', k = k' + 1 := ⟨k - 1, by omega⟩
            have hw1' : w1 ≠ 0 := fun e => by have := hk0 e; omega
            have hkk : k' + 1 ≤ (k' + 1) * w1 := Nat.le_mul_of_pos_right _ (by omega)
            refine cl [207, 256, 285] 90 256 _ _ _ _ _ _ ?_
            have ea : nI (sum - b0 * w0) - nI (k' + 1) * nI w1 = nI (sum - b0 * w0 - (k' + 1) * w1) := by rw [pk_mul, pk_sub hk]
            have eb : nI many - nI b0 - nI (k' + 1) = zI ((many : Int) - b0 - (k' + 1 : Nat)) := by rw [zI_nat, zI_nat, zI_nat, zI_sub, zI_sub]
            refine Exists.intro (sum - b0 * w0 - (k' + 1) * w1, w2, (many : Int) - b0 - (k' + 1 : Nat)) (And.intro (show [Value.int (nI (sum - b0 * w0) - nI (k' + 1) * nI w1), .int (nI w2), .int (nI many - nI b0 - nI (k' + 1))] = [Value.int (nI (sum - b0 * w0 - (k' + 1) * w1)), .int (nI w2), .int (zI ((many : Int) - b0 - (k' + 1 : Nat)))] by rw [ea, eb]) (And.intro (show sum - b0 * w0 - (k' + 1) * w1 ≤ 2000 ∧ w2 ≤ 500 ∧ (-5000 ≤ (many : Int) - b0 - (k' + 1 : Nat) ∧ (many : Int) - b0 - (k' + 1 : Nat) ≤ 5000) from ⟨by omega, h2, by omega, by omega⟩) ?_))
            rintro v Ii Ji Qi ⟨rfl, rfl, rfl, b, rfl, hbr⟩
            have hbr : b = true ↔ rstP (sum - b0 * w0 - (k' + 1) * w1) w2 ((many : Int) - b0 - (k' + 1 : Nat)) := hbr
            refine bI_cases b (fun hbt => ?_) (fun _ => ?_)
            · obtain ⟨n2, q1, q2, q3⟩ := hbr.mp hbt
              have hbw0 : b0 * w0 ≤ sum := by omega
              have := hbst.2 b0 (k' + 1) n2 ⟨by omega, hbg0, fun e => absurd e hw1', q3⟩
              omega
            · have := ih k' (by omega) (by rw [Nat.succ_mul] at hk; omega) (fun e => absurd e hw1')
              rw [← pk_m1 k'] at this
              exact this
        -- behind n0
        have g233 : ∀ v10 v11, G 233 [some (.ref 31), some (.int (nI width)), some (.int (nI w0)), some (.int (nI w1)), some (.int (nI w2)), some (.int (nI what)), some (.int 1), some (.int (nI sum)), some (.int (nI many)), some (.int (nI b0)), v10, v11] [] a Ih Jh Qh := by
          intro v10 v11
          have hbw0 : b0 * w0 ≤ sum := by omega
          have ea : nI sum - nI b0 * nI w0 = nI (sum - b0 * w0) := by rw [pk_mul, pk_sub hbw0]
          refine cl [207, 256, 285] 90 233 _ _ _ _ _ _ ?_
          refine And.intro (fun (d : ¬ nI w1 = 0) => ?_) (fun (d : nI w1 = 0) => ?_)
          · have hw1' : w1 ≠ 0 := fun e => d (by rw [e]; rfl)
            have ed : (nI sum - nI b0 * nI w0) / nI w1 = nI ((sum - b0 * w0) / w1) := by rw [ea, pk_div (by omega) (by omega) (by omega)]
            refine And.intro d ?_
            have hle : b1 ≤ (sum - b0 * w0) / w1 := (Nat.le_div_iff_mul_le (by omega)).mpr (by omega)
            have := l256 ((sum - b0 * w0) / w1 - b1) ((sum - b0 * w0) / w1) (by omega) (Nat.div_mul_le_self _ _) (fun e => absurd e hw1')
            rw [← ed, ← ea] at this
            exact this
          · have hw1' : w1 = 0 := (nI_eq (b := 0) (by omega) (by decide)).mp d
            have := l256 0 0 (by have := hbg1 hw1'; omega) (by omega) (fun _ => rfl)
            rw [← ea] at this
            exact this
        have l207 : ∀ d k (v10 v11 : Option Value), d + b0 = k → k * w0 ≤ sum → (w0 = 0 → k = 0) → G 207 [some (.ref 31), some (.int (nI width)), some (.int (nI w0)), some (.int (nI w1)), some (.int (nI w2)), some (.int (nI what)), some (.int 1), some (.int (nI sum)), some (.int (nI many)), some (.int (nI k)), v10, v11] [] a Ih Jh Qh := by
          intro d
          induction d with
          | zero =>
            intro k v10 v11 hd hk hk0
            obtain rfl : k = b0 := by omega
            have ea : nI sum - nI k * nI w0 = nI (sum - k * w0) := by rw [pk_mul, pk_sub hk]
            have eca : (nI sum - nI k * nI w0).toNatClampNeg = sum - k * w0 := by rw [ea]; exact nI_clamp (by omega)
            refine cl [233, 256, 285] 90 207 _ _ _ _ _ _ ?_
            refine And.intro (show vp_in (nI sum - nI k * nI w0) 2001 from by rw [ea]; exact vp_in_nI (by omega) (by decide)) (And.intro (fun _ => g233 v10 v11) (fun (d2 : ¬ Ih 59 (nI sum - nI k * nI w0).toNatClampNeg = nI many - nI k) => ?_))
            rw [eca] at d2
            exfalso
            apply d2
            have hPb : addP w2 (addP w1 P00) (sum - k * w0) (b1 + b2) := way2.mpr ⟨b1, b2, ⟨by omega, hbg1, hbg2⟩, rfl⟩
            rcases th (sum - k * w0) (by omega) with ⟨_, hno⟩ | ⟨c1, q1, q2, q3, q4⟩
            · exact absurd hPb (hno _)
            · have hle := q4 _ hPb
              obtain ⟨n1, n2, ⟨r1, r2, r3⟩, r4⟩ := way2.mp q3
              have := hmin _ ⟨k, n1, n2, ⟨by omega, hbg0, r2, r3⟩, rfl⟩
              rw [q1, pk_sub (by omega)]
              exact congrArg nI (by omega)
          | succ d ih =>
            intro k v10 v11 hd hk hk0
            obtain ⟨k', rfl⟩ : ∃ k', k = k' + 1 := ⟨k - 1, by omega⟩
            have hw0' : w0 ≠ 0 := fun e => by have := hk0 e; omega
            have hkk : k' + 1 ≤ (k' + 1) * w0 := Nat.le_mul_of_pos_right _ (by omega)
            have ea : nI sum - nI (k' + 1) * nI w0 = nI (sum - (k' + 1) * w0) := by rw [pk_mul, pk_sub hk]
            have eca : (nI sum - nI (k' + 1) * nI w0).toNatClampNeg = sum - (k' + 1) * w0 := by rw [ea]; exact nI_clamp (by omega)
            refine cl [207, 256, 285] 90 207 _ _ _ _ _ _ ?_
            refine And.intro (show vp_in (nI sum - nI (k' + 1) * nI w0) 2001 from by rw [ea]; exact vp_in_nI (by omega) (by decide)) (And.intro (fun (d2 : Ih 59 (nI sum - nI (k' + 1) * nI w0).toNatClampNeg = nI many - nI (k' + 1)) => ?_) (fun _ => ?_))
            · exfalso
              rw [eca, zI_nat, zI_nat, zI_sub] at d2
              rcases th (sum - (k' + 1) * w0) (by omega) with ⟨q1, _⟩ | ⟨c1, q1, q2, q3, q4⟩
              · rw [q1, zI_nat] at d2
                have := congrArg Int32.toInt d2
                rw [zI_toInt (by omega) (by omega), zI_toInt (by omega) (by omega)] at this
                omega
              · rw [q1, zI_nat] at d2
                have := congrArg Int32.toInt d2
                rw [zI_toInt (by omega) (by omega), zI_toInt (by omega) (by omega)] at this
                obtain ⟨n1, n2, ⟨r1, r2, r3⟩, r4⟩ := way2.mp q3
                have := hbst.2 (k' + 1) n1 n2 ⟨by omega, fun e => absurd e hw0', r2, r3⟩
                omega
            · have := ih k' v10 v11 (by omega) (by rw [Nat.succ_mul] at hk; omega) (fun e => absurd e hw0')
              rw [← pk_m1 k'] at this
              exact this
        refine And.intro (fun (d : ¬ nI w0 = 0) => ?_) (fun (d : nI w0 = 0) => ?_)
        · have hw0' : w0 ≠ 0 := fun e => d (by rw [e]; rfl)
          have ed : nI sum / nI w0 = nI (sum / w0) := pk_div (by omega) (by omega) (by omega)
          refine And.intro d ?_
          have hle : b0 ≤ sum / w0 := (Nat.le_div_iff_mul_le (by omega)).mpr (by omega)
          have := l207 (sum / w0 - b0) (sum / w0) none none (by omega) (Nat.div_mul_le_self _ _) (fun e => absurd e hw0')
          rw [← ed, ← em3] at this
          exact this
        · have hw0' : w0 = 0 := (nI_eq (b := 0) (by omega) (by decide)).mp d
          have := l207 0 0 none none (by have := hbg0 hw0'; omega) (by omega) (fun _ => rfl)
          rw [← em3] at this
          exact this
      · rw [show (2 : Int32) = nI 2 from rfl, nI_leI (by decide) (by omega)] at c
        have w1' : what = 1 := by
          have q2 : what ≠ 0 := fun e => c2 (by rw [e]; rfl)
          omega
        have := hans (some (.int (Id 58 (nI sum).toNatClampNeg))) (by
          rw [em, hcnt, w1']
          rfl) Id hf2
        exact this
      · have w0' : what = 0 := (nI_eq (b := 0) (by omega) (by decide)).mp c2
        have := hans (some (.int (nI width - nI sum))) (by
          rw [pk_sub hs, w0']
          rfl) Id hf2
        exact this
    have l118 : ∀ sum, sum ≤ width → (∀ j, sum < j → j ≤ width → ∀ m0 m1 m2, ¬ wyN w0 w1 w2 j m0 m1 m2) → G 118 [some (.ref 31), some (.int (nI width)), some (.int (nI w0)), some (.int (nI w1)), some (.int (nI w2)), some (.int (nI what)), some (.int 1), some (.int (nI sum)), none, none, none, none] [] a Id Jd Qd := by
      intro sum
      induction sum with
      | zero =>
        intro hs hno
        have hway : wyN w0 w1 w2 0 0 0 0 := ⟨by simp, fun _ => rfl, fun _ => rfl, fun _ => rfl⟩
        refine cl [118, 136] 90 118 _ _ _ _ _ _ ?_
        rcases td 0 (by omega) with ⟨_, q2⟩ | ⟨c, q1, q2, q3, q4⟩
        · exact absurd (way3.mpr ⟨0, 0, 0, hway, rfl⟩) (q2 0)
        · obtain rfl : c = 0 := by omega
          refine And.intro (show vp_in (nI 0) 2001 from vp_in_nI (by omega) (by decide)) (And.intro (fun _ => fin 0 0 hs q1 (by omega) ⟨0, 0, 0, hway⟩ (fun _ _ => Nat.zero_le _) ⟨0, 0, 0, hway, rfl⟩ hno) (fun (c2 : ¬ Id 58 (nI 0).toNatClampNeg < 100000) => absurd (by rw [show (nI 0).toNatClampNeg = 0 from rfl, q1]; decide) c2))
      | succ s ih =>
        intro hs hno
        have ecs : (nI (s + 1)).toNatClampNeg = s + 1 := nI_clamp (by omega)
        refine cl [118, 136] 90 118 _ _ _ _ _ _ ?_
        rcases td (s + 1) (by omega) with ⟨q1, q2⟩ | ⟨c, q1, q2, q3, q4⟩
        · refine And.intro (show vp_in (nI (s + 1)) 2001 from vp_in_nI (by omega) (by decide)) (And.intro (fun (c2 : Id 58 (nI (s + 1)).toNatClampNeg < 100000) => absurd c2 (by rw [ecs, q1]; decide)) (fun _ => ?_))
          have := ih (by omega) (fun j h3 h4 m0 m1 m2 hw => by
            by_cases e : j = s + 1
            · subst e; exact q2 _ (way3.mpr ⟨m0, m1, m2, hw, rfl⟩)
            · exact hno j (by omega) h4 m0 m1 m2 hw)
          rw [← pk_m1 s] at this
          exact this
        · obtain ⟨n0, n1, n2, hw, hc⟩ := way3.mp q3
          refine And.intro (show vp_in (nI (s + 1)) 2001 from vp_in_nI (by omega) (by decide)) (And.intro (fun _ => fin (s + 1) c hs q1 (by omega) ⟨n0, n1, n2, hw⟩ (fun c' hc' => q4 c' (way3.mpr hc')) ⟨n0, n1, n2, hw, hc⟩ hno) (fun (c2 : ¬ Id 58 (nI (s + 1)).toNatClampNeg < 100000) => absurd (by rw [ecs, q1]; exact nI_lt (b := 100000) (by omega) (by decide)) c2))
    exact l118 width (Nat.le_refl _) (fun j h3 h4 => by omega)
  -- the checks
  have g69 : ∀ b, (b = true ↔ slR W W0 W1 W2 WT) → G 69 [some (.ref 31), some (.int W), some (.int W0), some (.int W1), some (.int W2), some (.int WT), none, none, none, none, none, none] [.int (bI b)] a I J Q := by
    intro b hbs
    cases b with
    | false =>
      refine cl [] 90 69 _ _ _ _ _ _ ?_
      have hno : ¬ slR W W0 W1 W2 WT := fun h => by have := hbs.mpr h; cases this
      exact And.intro (fun h => absurd rfl h) (fun _ => hR _ _ _ _ ⟨rfl, rfl, fr_refl _ _, fun h => absurd h hno, fun _ => rfl⟩)
    | true =>
      have hr := hbs.mp rfl
      obtain ⟨r1, r2, r3, r4, r5, r6⟩ := id hr
      have wiN : ∀ {x : Int32} {lo hi : Nat}, hi < 2 ^ 31 → wi x (nI lo) (nI hi) = true → lo < 2 ^ 31 → ∃ j, lo ≤ j ∧ j ≤ hi ∧ x = nI j := fun {x lo hi} hhi h hlo => by
        unfold wi at h
        rw [Bool.and_eq_true, decide_eq_true_iff, decide_eq_true_iff] at h
        have hx0 : ¬ x < 0 := Int32.not_lt.mpr (Int32.le_trans (show (0 : Int32) ≤ nI lo from nI_pos' hlo) h.1)
        obtain ⟨j, hj, rfl⟩ := nI_of hx0
        exact ⟨j, (nI_leI hlo hj).mp h.1, (nI_leI hj hhi).mp h.2, rfl⟩
      obtain ⟨width, a1, a2, eW⟩ := wiN (lo := 1) (hi := 2000) (by decide) r1 (by decide)
      obtain ⟨w0, _, b2, e0⟩ := wiN (lo := 0) (hi := 500) (by decide) r2 (by decide)
      obtain ⟨w1, _, b3, e1⟩ := wiN (lo := 0) (hi := 500) (by decide) r3 (by decide)
      obtain ⟨w2, _, b4, e2⟩ := wiN (lo := 0) (hi := 500) (by decide) r4 (by decide)
      obtain ⟨what, _, b5, eT⟩ := wiN (lo := 0) (hi := 4) (by decide) r6 (by decide)
      have hsum : 0 < w0 + w1 + w2 := by
        rcases Nat.eq_zero_or_pos (w0 + w1 + w2) with h | h
        · exfalso
          apply r5
          rw [e0, e1, e2, nI_add, nI_add, h]
          decide
        · exact h
      have := core width w0 w1 w2 what eW e0 e1 e2 eT a1 a2 b2 b3 b4 hsum b5 hr
      rw [← eW, ← e0, ← e1, ← e2, ← eT] at this
      refine cl [79] 90 69 _ _ _ _ _ _ ?_
      exact And.intro (fun _ => this) (fun h => absurd h (by decide))
  refine cl [69] 90 0 _ _ _ _ _ _ ?_
  refine Exists.intro (W, 1, 2000) (And.intro rfl (And.intro trivial ?_))
  refine bI_cases' (wi W 1 2000) (fun r1 => ?_) (fun r1 => g69 false ⟨fun h => (by cases h), fun h => by rw [h.1] at r1; cases r1⟩)
  refine Exists.intro (W0, 0, 500) (And.intro rfl (And.intro trivial ?_))
  refine bI_cases' (wi W0 0 500) (fun r2 => ?_) (fun r2 => g69 false ⟨fun h => (by cases h), fun h => by rw [h.2.1] at r2; cases r2⟩)
  refine Exists.intro (W1, 0, 500) (And.intro rfl (And.intro trivial ?_))
  refine bI_cases' (wi W1 0 500) (fun r3 => ?_) (fun r3 => g69 false ⟨fun h => (by cases h), fun h => by rw [h.2.2.1] at r3; cases r3⟩)
  refine Exists.intro (W2, 0, 500) (And.intro rfl (And.intro trivial ?_))
  refine bI_cases' (wi W2 0 500) (fun r4 => ?_) (fun r4 => g69 false ⟨fun h => (by cases h), fun h => by rw [h.2.2.2.1] at r4; cases r4⟩)
  refine And.intro (fun (r5 : W0 + W1 + W2 ≤ 0) => g69 false ⟨fun h => (by cases h), fun h => absurd r5 h.2.2.2.2.1⟩) (fun (r5 : ¬ W0 + W1 + W2 ≤ 0) => ?_)
  refine Exists.intro (WT, 0, 4) (And.intro rfl (And.intro trivial ?_))
  exact bI_cases' (wi WT 0 4) (fun r6 => g69 true ⟨fun _ => ⟨r1, r2, r3, r4, r5, r6⟩, fun _ => rfl⟩) (fun r6 => g69 false ⟨fun h => (by cases h), fun h => by rw [h.2.2.2.2.2] at r6; cases r6⟩)
