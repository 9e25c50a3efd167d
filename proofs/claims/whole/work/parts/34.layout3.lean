/-! Layout: the pitch of a pair, the best shift -/
theorem pitchN_le (n : Nat) : 1 ≤ pitchN n ∧ pitchN n ≤ 63 := by
  have : ∀ j, j ≤ 62 → 1 ≤ ptL n j ∧ ptL n j ≤ 63 - j + j := by
    intro j
    induction j with
    | zero => intro _; exact (show 1 ≤ 63 ∧ 63 ≤ 63 - 0 + 0 by decide)
    | succ j ih =>
      intro h
      have := ih (by omega)
      unfold ptL
      split <;> omega
  have h := this 62 (Nat.le_refl _)
  exact ⟨h.1, by unfold pitchN; omega⟩
theorem selfN_lt {c w h web : Nat} (hw : web ≤ 4) : selfN c w h web < 2 ^ 24 := Nat.lt_of_le_of_lt (Nat.div_le_self _ _) (shN_lt (fun r _ => gst_lt c hw 8 r) h)
theorem acrN_lt {s m dx : Nat} (hs : s < 2 ^ 24) (hm : m < 2 ^ 24) (hdx : dx ≤ 31) : acrN s m dx < 2 ^ 44 := by
  unfold acrN
  refine Nat.or_lt_two_pow (Nat.lt_of_le_of_lt (Nat.div_le_self _ _) (by omega)) ?_
  split
  · exact Nat.lt_of_le_of_lt (Nat.div_le_self _ _) (by omega)
  · exact Nat.lt_of_lt_of_le (Nat.mul_lt_mul_of_lt_of_le hm (Nat.pow_le_pow_right (by decide) (show dx - 11 ≤ 20 by omega)) (Nat.two_pow_pos _)) (by decide)
theorem bI_cases (b : Bool) {P Q : Prop} (h1 : b = true → P) (h2 : b = false → Q) : (¬ bI b = 0 → P) ∧ (bI b = 0 → Q) := by
  cases b with
  | true => exact ⟨fun _ => h1 rfl, fun h => absurd h (by decide)⟩
  | false => exact ⟨fun h => absurd rfl h, fun _ => h2 rfl⟩
theorem bI_cases' (b : Bool) {P Q : Prop} (h1 : b = true → P) (h2 : b = false → Q) : (bI b = 0 → Q) ∧ (¬ bI b = 0 → P) := ⟨(bI_cases b h1 h2).2, (bI_cases b h1 h2).1⟩
/-- the least of the first shifts' numbers -/
def bsL (cl s strip places : Nat) : Nat → Nat
  | 0 => 2147483647
  | dx + 1 => if s.testBit (11 + dx) = true then bsL cl s strip places dx else min (bsL cl s strip places dx) (strip * pitchN (cl ||| acrN s (mirN s 23) dx) * 8 * 16 * 17 + places + dx * 17)
theorem bsL_le (cl s strip places : Nat) : ∀ dx, bsL cl s strip places dx ≤ 2147483647
  | 0 => Nat.le_refl _
  | dx + 1 => by
    have := bsL_le cl s strip places dx
    unfold bsL
    split
    · exact this
    · omega
abbrev x_bs : Type := Nat × Nat × Nat × Nat
abbrev e_bs : x_bs → List Value := fun x => [.ref 6, .long (lN x.1), .long (lN x.2.1), .int (nI x.2.2.1), .int (nI x.2.2.2)]
theorem v_bs (n : Nat) (h : 7 ≤ n) (x : x_bs) : okv (e_bs x) ∧ (lvA (e_bs x)).length ≤ n := ⟨okv_ref (okv_long (okv_long (okv_int (okv_int okv_nil)))), h⟩
def e_bshift : ev := (5, 2, false, 0, 0, sf e_bs (fun x _ _ J _ => x.1 < 2 ^ 44 ∧ x.2.1 < 2 ^ 24 ∧ x.2.2.1 ≤ 40 ∧ x.2.2.2 ≤ 10000 ∧ mulOK J) (fun x _ _ _ _ => some (.int (nI (bsL x.1 x.2.1 x.2.2.1 x.2.2.2 16)))))
set_option maxRecDepth 20000 in
theorem c_bshift {l : Launch} : CX l cdX2_bestShift e_bshift := by
  refine cm_sf RX2 edX2_bestShift [e_mir, e_apart, e_across, e_pitch] false kX2_bestShift cwX2_bestShift okX2_bestShift ⟨⟨_, rfl, c_mir⟩, ⟨_, rfl, c_apart⟩, ⟨_, rfl, c_across⟩, ⟨_, rfl, c_pitch⟩, trivial⟩ (by decide) rfl (v_bs _ (by decide)) ?_
  intro um zm G Rt ⟨cl0, s, strip, places⟩ a I J Q cl hb hp hR
  obtain ⟨hc0, hs, hst, hpl, hmul⟩ := hp
  have hc0 : cl0 < 2 ^ 44 := hc0
  have hs : s < 2 ^ 24 := hs
  have hst : strip ≤ 40 := hst
  have hpl : places ≤ 10000 := hpl
  have hmir : mirN s 23 < 2 ^ 24 := Nat.lt_trans (mirN_lt s 23) (by decide)
  have loop : ∀ j dx v11, j + dx = 16 → G 13 [some (.ref 6), some (.long (lN cl0)), none, some (.long (lN s)), none, some (.int (nI strip)), some (.int (nI places)), some (.int (nI (bsL cl0 s strip places dx))), some (.long (lN (mirN s 23))), none, some (.int (nI dx)), v11] [] a I J Q := by
    intro j
    induction j with
    | zero =>
      intro dx v11 hj
      obtain rfl : dx = 16 := by omega
      refine cl [13] 80 13 _ _ _ _ _ _ ?_
      exact And.intro (fun _ => hR _ rfl) (fun c => absurd (by decide) c)
    | succ j ih =>
      intro dx v11 hj
      refine cl [13] 80 13 _ _ _ _ _ _ ?_
      refine And.intro (fun c => absurd c (nI_ge (a := dx) (b := 16) (by omega) (by decide))) (fun _ => ?_)
      refine Exists.intro (s, dx) (And.intro rfl (And.intro (show s < 2 ^ 64 ∧ dx ≤ 31 by omega) ?_))
      refine bI_cases' (!s.testBit (11 + dx)) (fun hb => ?_) (fun hb => ?_)
      · have hb : s.testBit (11 + dx) = false := by simpa using hb
        refine Exists.intro (s, mirN s 23, dx) (And.intro rfl (And.intro (show s < 2 ^ 24 ∧ mirN s 23 < 2 ^ 24 ∧ dx ≤ 31 by omega) ?_))
        have hac := acrN_lt (dx := dx) hs hmir (by omega)
        have hor : cl0 ||| acrN s (mirN s 23) dx < 2 ^ 44 := Nat.or_lt_two_pow hc0 hac
        refine Exists.intro (cl0 ||| acrN s (mirN s 23) dx) (And.intro (show [Value.ref 6, Value.long (lN cl0 ||| lN (acrN s (mirN s 23) dx))] = [Value.ref 6, Value.long (lN (cl0 ||| acrN s (mirN s 23) dx))] by rw [wb_or (by omega) (by omega)]) (And.intro (show cl0 ||| acrN s (mirN s 23) dx < 2 ^ 64 ∧ mulOK J from ⟨by omega, hmul⟩) ?_))
        have hpt := pitchN_le (cl0 ||| acrN s (mirN s 23) dx)
        have hbl := bsL_le cl0 s strip places dx
        have hmu : strip * pitchN (cl0 ||| acrN s (mirN s 23) dx) ≤ 40 * 63 := Nat.mul_le_mul hst hpt.2
        have en : nI strip * nI (pitchN (cl0 ||| acrN s (mirN s 23) dx)) * 8 * 16 * 17 + nI places + nI dx * 17 = nI (strip * pitchN (cl0 ||| acrN s (mirN s 23) dx) * 8 * 16 * 17 + places + dx * 17) := by
          rw [show (8 : Int32) = nI 8 from rfl, show (16 : Int32) = nI 16 from rfl, show (17 : Int32) = nI 17 from rfl, pk_mul, pk_mul, pk_mul, pk_mul, pk_mul, nI_add, nI_add]
        have emin : (if nI strip * nI (pitchN (cl0 ||| acrN s (mirN s 23) dx)) * 8 * 16 * 17 + nI places + nI dx * 17 < nI (bsL cl0 s strip places dx) then nI strip * nI (pitchN (cl0 ||| acrN s (mirN s 23) dx)) * 8 * 16 * 17 + nI places + nI dx * 17 else nI (bsL cl0 s strip places dx)) = nI (bsL cl0 s strip places (dx + 1)) := by
          have eb : bsL cl0 s strip places (dx + 1) = min (bsL cl0 s strip places dx) (strip * pitchN (cl0 ||| acrN s (mirN s 23) dx) * 8 * 16 * 17 + places + dx * 17) := if_neg (by rw [hb]; decide)
          rw [en, eb]
          generalize strip * pitchN (cl0 ||| acrN s (mirN s 23) dx) = sp at *
          by_cases hlt : sp * 8 * 16 * 17 + places + dx * 17 < bsL cl0 s strip places dx
          · rw [if_pos (nI_lt hlt (by omega)), Nat.min_eq_right (by omega)]
          · rw [if_neg (nI_nlt (by omega) (by omega)), Nat.min_eq_left (by omega)]
        have := ih (dx + 1) (some (.int (nI strip * nI (pitchN (cl0 ||| acrN s (mirN s 23) dx))))) (by omega)
        rw [← emin, ← nI_1 dx] at this
        exact this
      · have hb : s.testBit (11 + dx) = true := by simpa using hb
        have := ih (dx + 1) v11 (by omega)
        rw [show bsL cl0 s strip places (dx + 1) = bsL cl0 s strip places dx by show (if _ then _ else _) = _; rw [if_pos hb], ← nI_1 dx] at this
        exact this
  refine cl [13] 80 0 _ _ _ _ _ _ ?_
  refine Exists.intro s (And.intro rfl (And.intro (show s < 2 ^ 64 by omega) ?_))
  exact loop 16 0 none rfl
/-- the pitch of a pair, 0 if they are not apart -/
def pairS (ca wb hb cb web : Nat) (d : Int) : Nat := shN (grN ca web) cb wb d hb
def pairN (ca wa ha cb wb hb web dx : Nat) (d : Int) : Nat := if (pairS ca wb hb cb web d).testBit (11 + dx) = true then 0 else pitchN (selfN ca wa ha web ||| selfN cb wb hb web ||| acrN (pairS ca wb hb cb web d) (mirN (pairS ca wb hb cb web d) 23) dx)
/-- ka ca wa ha kb cb wb hb dx d web -/
abbrev x_pp : Type := (Nat × Nat × Nat × Nat) × (Nat × Nat × Nat × Nat) × Nat × Int × Nat
abbrev e_pp : x_pp → List Value := fun x => [.ref 6, .ref x.1.1, .ref x.2.1.1, .int (nI x.2.2.1), .int (zI x.2.2.2.1), .int (nI x.2.2.2.2)]
theorem v_pp (n : Nat) (h : 6 ≤ n) (x : x_pp) : okv (e_pp x) ∧ (lvA (e_pp x)).length ≤ n := ⟨okv_ref (okv_ref (okv_ref (okv_int (okv_int (okv_int okv_nil))))), h⟩
def e_ppair : ev := (6, 2, false, 0, 0, sn e_pp (fun x a I J _ => shw a I J x.1.1 x.1.2.1 x.1.2.2.1 x.1.2.2.2 ∧ shw a I J x.2.1.1 x.2.1.2.1 x.2.1.2.2.1 x.2.1.2.2.2 ∧ x.2.2.1 ≤ 31 ∧ (-8 ≤ x.2.2.2.1 ∧ x.2.2.2.1 ≤ 8) ∧ x.2.2.2.2 ≤ 3 ∧ mulOK J) (fun x _ I J Q v I' J' Q' => v = some (.int (nI (pairN x.1.2.1 x.1.2.2.1 x.1.2.2.2 x.2.1.2.1 x.2.1.2.2.1 x.2.1.2.2.2 x.2.2.2.2 x.2.2.1 x.2.2.2.1))) ∧ J' = J ∧ Q' = Q ∧ grown 9 I I' x.1.2.1 x.2.2.2.2))
set_option maxRecDepth 20000 in
theorem c_ppair {l : Launch} : CX l cdX2_pitchOfPair e_ppair := by
  refine cm_sn RX2 edX2_pitchOfPair [e_self, e_grow, e_shifts, e_apart, e_mir, e_across, e_pitch] false kX2_pitchOfPair cwX2_pitchOfPair okX2_pitchOfPair ⟨⟨_, rfl, c_self⟩, ⟨_, rfl, c_grow⟩, ⟨_, rfl, c_shifts⟩, ⟨_, rfl, c_apart⟩, ⟨_, rfl, c_mir⟩, ⟨_, rfl, c_across⟩, ⟨_, rfl, c_pitch⟩, trivial⟩ (by decide) rfl (v_pp _ (by decide)) ?_
  intro um zm G Rt ⟨⟨ka, ca, wa, ha⟩, ⟨kb, cb, wb, hb'⟩, dx, d, web⟩ a I J Q cl hb hp hR
  obtain ⟨hsa, hsb, hdx, hd, hweb, hmul⟩ := hp
  have hsa : shw a I J ka ca wa ha := hsa
  have hsb : shw a I J kb cb wb hb' := hsb
  have hdx : dx ≤ 31 := hdx
  have hweb : web ≤ 3 := hweb
  have hd : -8 ≤ d ∧ d ≤ 8 := hd
  have na := ob_ne hsa.1.1 gw_9
  have nb := ob_ne hsb.1.1 gw_9
  refine cl [] 80 0 _ _ _ _ _ _ ?_
  refine Exists.intro (ka, ca, wa, ha, web) (And.intro rfl (And.intro (show shw a I J ka ca wa ha ∧ web ≤ 4 from ⟨hsa, by omega⟩) ?_))
  rintro v I1 J1 Q1 ⟨rfl, rfl, rfl, g1⟩
  have g1 : grown 9 I I1 ca web := g1
  refine Exists.intro (kb, cb, wb, hb', web) (And.intro rfl (And.intro (show shw a I1 J1 kb cb wb hb' ∧ web ≤ 4 from ⟨shw_of hsb (g1.1 kb nb), by omega⟩) ?_))
  rintro v I2 J2 Q2 ⟨rfl, rfl, rfl, g2⟩
  have g2 : grown 9 I1 I2 cb web := g2
  have e2a : I2 ka = I ka := (g2.1 ka na).trans (g1.1 ka na)
  refine Exists.intro (false, ka, ca, web) (And.intro rfl (And.intro (show shp a I2 J2 ka ca ∧ web ≤ 4 from ⟨(shw_of hsa e2a).1, by omega⟩) ?_))
  rintro v I3 J3 Q3 ⟨rfl, rfl, rfl, g3⟩
  have g3 : grown 9 I2 I3 ca web := g3
  have g13 := grown_tr (grown_tr g1 g2) g3
  refine Exists.intro (false, kb, cb, wb, hb', d, grN ca web) (And.intro rfl (And.intro (show shw a I3 J3 kb cb wb hb' ∧ (-1000 ≤ d ∧ d ≤ 1000) ∧ _ from ⟨shw_of hsb (g13.1 kb nb), by omega, grown_f g13 (by omega)⟩) ?_))
  have hps : pairS ca wb hb' cb web d < 2 ^ 24 := shN_lt (fun r _ => gst_lt ca (by omega) 8 r) hb'
  have hmir : mirN (pairS ca wb hb' cb web d) 23 < 2 ^ 24 := Nat.lt_trans (mirN_lt _ 23) (by decide)
  have hsl1 := selfN_lt (c := ca) (w := wa) (h := ha) (web := web) (by omega)
  have hsl2 := selfN_lt (c := cb) (w := wb) (h := hb') (web := web) (by omega)
  refine Exists.intro (pairS ca wb hb' cb web d, dx) (And.intro rfl (And.intro (show pairS ca wb hb' cb web d < 2 ^ 64 ∧ dx ≤ 31 by omega) ?_))
  refine bI_cases (!(pairS ca wb hb' cb web d).testBit (11 + dx)) (fun hbit => ?_) (fun hbit => ?_)
  · have hbit : (pairS ca wb hb' cb web d).testBit (11 + dx) = false := by simpa using hbit
    refine Exists.intro (pairS ca wb hb' cb web d) (And.intro rfl (And.intro (show pairS ca wb hb' cb web d < 2 ^ 64 by omega) ?_))
    refine Exists.intro (pairS ca wb hb' cb web d, mirN (pairS ca wb hb' cb web d) 23, dx) (And.intro rfl (And.intro (show pairS ca wb hb' cb web d < 2 ^ 24 ∧ mirN (pairS ca wb hb' cb web d) 23 < 2 ^ 24 ∧ dx ≤ 31 by omega) ?_))
    have hac := acrN_lt (dx := dx) hps hmir hdx
    have ho1 : selfN ca wa ha web ||| selfN cb wb hb' web < 2 ^ 24 := Nat.or_lt_two_pow hsl1 hsl2
    have ho2 : selfN ca wa ha web ||| selfN cb wb hb' web ||| acrN (pairS ca wb hb' cb web d) (mirN (pairS ca wb hb' cb web d) 23) dx < 2 ^ 44 := Nat.or_lt_two_pow (by omega) hac
    refine Exists.intro (selfN ca wa ha web ||| selfN cb wb hb' web ||| acrN (pairS ca wb hb' cb web d) (mirN (pairS ca wb hb' cb web d) 23) dx) (And.intro (show [Value.ref 6, Value.long ((lN (selfN ca wa ha web) ||| lN (selfN cb wb hb' web)) ||| lN (acrN (pairS ca wb hb' cb web d) (mirN (pairS ca wb hb' cb web d) 23) dx))] = [Value.ref 6, Value.long (lN (selfN ca wa ha web ||| selfN cb wb hb' web ||| acrN (pairS ca wb hb' cb web d) (mirN (pairS ca wb hb' cb web d) 23) dx))] by rw [wb_or (by omega) (by omega), wb_or (by omega) (by omega)]) (And.intro (show _ < 2 ^ 64 ∧ mulOK J3 from ⟨by omega, hmul⟩) ?_))
    have := hR _ I3 J3 Q3 ⟨rfl, rfl, rfl, g13⟩
    simp only [pairN] at this
    rw [if_neg (by rw [hbit]; decide)] at this
    exact this
  · have hbit : (pairS ca wb hb' cb web d).testBit (11 + dx) = true := by simpa using hbit
    have := hR _ I3 J3 Q3 ⟨rfl, rfl, rfl, g13⟩
    simp only [pairN] at this
    rw [if_pos hbit] at this
    exact this
