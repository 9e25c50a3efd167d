/-! REFERENCE: told, findBest -/
def tvN (what p strip cells : Nat) : Int32 := if what = 0 then nI p else if what = 1 then nI strip else if what = 2 then nI (p * strip) else nI (p * strip) - nI cells
abbrev x_td : Type := (Nat → Nat) × (Nat × Nat) × (Nat × Nat) × Nat × Nat
abbrev e_td : x_td → List Value := fun x => [.ref 31, .int (nI x.2.2.2.1), .int (nI x.2.2.2.2)]
theorem v_td (n : Nat) (h : 3 ≤ n) (x : x_td) : okv (e_td x) ∧ (lvA (e_td x)).length ≤ n := ⟨okv_ref (okv_int (okv_int okv_nil)), h⟩
def e_told : ev := (3, 10, false, 0, 0, sn e_td (fun x _ I J _ => ljA J 41 x.1 ∧ endsP x.1 x.2.1.1 x.2.1.2 ∧ (I 37 0 = nI x.2.2.1.1 ∧ x.2.2.1.1 ≤ 3) ∧ (I 37 1 = nI x.2.2.1.2 ∧ x.2.2.1.2 ≤ 3) ∧ x.2.2.2.2 ≤ 3) (fun x _ I J Q v I' J' Q' => I' = I ∧ Q' = Q ∧ frJ J J' [43] ∧ ∃ v', v = some (.int v') ∧ ∀ p, isPitch (clF x.1 x.2.2.1.1) 60 p → v' = tvN x.2.2.2.2 p (x.2.1.2 - x.2.1.1 + 1 + 2 * x.2.2.1.2) x.2.2.2.1))
theorem clF_far {F : Nat → Nat} {w d : Nat} (hF : ∀ y, y < 24 → F y < 2 ^ 40) (hw : w ≤ 3) (h : clF F w d) : d < 43 := by
  obtain ⟨y1, x1, y2, x2, h1, h2, h3, h4, h5, h6, h7, h8⟩ := h
  have := bit_lt (hF y1 h1) h3
  omega
set_option maxRecDepth 20000 in
theorem c_told {l : Launch} : CX l cdX10_told e_told := by
  refine cm_sn RX10 edX10_told [e_rstrip, e_rpitch] false kX10_told cwX10_told okX10_told ⟨⟨_, rfl, c_rstrip⟩, ⟨_, rfl, c_rpitch⟩, trivial⟩ (by decide) rfl (v_td _ (by decide)) ?_
  intro um zm G Rt ⟨F, ⟨lo, hi⟩, ⟨w, m⟩, cells, what⟩ a I J Q cl hb hp hR
  obtain ⟨hF, hE, ⟨hI0, hw⟩, ⟨hI1, hm⟩, hwt⟩ := hp
  have hF : ljA J 41 F := hF
  have hE : endsP F lo hi := hE
  have hI0 : I 37 0 = nI w := hI0
  have hw : w ≤ 3 := hw
  have hI1 : I 37 1 = nI m := hI1
  have hm : m ≤ 3 := hm
  have hwt : what ≤ 3 := hwt
  have hR : ∀ v I' J' Q', (I' = I ∧ Q' = Q ∧ frJ J J' [43] ∧ ∃ v', v = some (Value.int v') ∧ ∀ p, isPitch (clF F w) 60 p → v' = tvN what p (hi - lo + 1 + 2 * m) cells) → Rt v a I' J' Q' := hR
  have es : nI (hi - lo + 1) + 2 * I 37 ((1 : Int32)).toNatClampNeg = nI (hi - lo + 1 + 2 * m) := by
    rw [show ((1 : Int32)).toNatClampNeg = 1 from rfl, hI1, show (2 : Int32) = nI 2 from rfl, pk_mul, nI_add]
  refine cl [] 80 0 _ _ _ _ _ _ ?_
  refine Exists.intro (F, lo, hi) (And.intro rfl (And.intro ⟨hF, hE⟩ ?_))
  refine And.intro (show vp_in 1 3 from vp_in_nI (n := 1) (by decide) (by decide)) ?_
  refine And.intro (fun (h : ¬ nI what = 1) => ?_) (fun (h : nI what = 1) => ?_)
  · refine Exists.intro (F, w, 60) (And.intro rfl (And.intro (show ljA J 41 F ∧ (I 37 0 = nI w ∧ w ≤ 3) ∧ 1 ≤ 60 ∧ 60 ≤ 60 from ⟨hF, ⟨hI0, hw⟩, by decide, by decide⟩) ?_))
    rintro v I2 J2 Q2 ⟨rfl, rfl, hf, p, rfl, hp⟩
    have hp : isPitch (clF F w) 60 p := hp
    have hone : ∀ p', isPitch (clF F w) 60 p' → p' = p := fun p' hp' => pitch_eq (B := 43) (by decide) (fun d hd => clF_far (fun y hy => (hF y hy).2) hw hd) (by decide) (by decide) hp' hp
    refine And.intro (fun (h0 : ¬ nI what = 0) => And.intro (fun (h3 : ¬ nI what = 3) => ?_) (fun (h3 : nI what = 3) => ?_)) (fun (h0 : nI what = 0) => ?_)
    · have w2 : what = 2 := by
        have g : ∀ k, ¬ nI what = nI k → what ≠ k := fun k h e => h (by rw [e])
        have := g 0 h0
        have := g 1 h
        have := g 3 h3
        omega
      have := hR (some (.int (nI p * (nI (hi - lo + 1) + 2 * I2 37 ((1 : Int32)).toNatClampNeg) - 0))) I2 J2 Q2 ⟨rfl, rfl, hf, _, rfl, fun p' hp' => by
        rw [hone p' hp', es, pk_mul, w2]
        show nI _ - nI 0 = _
        rw [pk_sub (Nat.zero_le _)]
        rfl⟩
      exact this
    · have w3 : what = 3 := (nI_eq (b := 3) (by omega) (by decide)).mp h3
      have := hR (some (.int (nI p * (nI (hi - lo + 1) + 2 * I2 37 ((1 : Int32)).toNatClampNeg) - nI cells))) I2 J2 Q2 ⟨rfl, rfl, hf, _, rfl, fun p' hp' => by
        rw [hone p' hp', es, pk_mul, w3]
        rfl⟩
      exact this
    · have w0 : what = 0 := (nI_eq (b := 0) (by omega) (by decide)).mp h0
      have := hR (some (.int (nI p))) I2 J2 Q2 ⟨rfl, rfl, hf, _, rfl, fun p' hp' => by
        rw [hone p' hp', w0]
        rfl⟩
      exact this
  · have w1 : what = 1 := (nI_eq (b := 1) (by omega) (by decide)).mp h
    have := hR (some (.int (nI (hi - lo + 1) + 2 * I 37 ((1 : Int32)).toNatClampNeg))) I J Q ⟨rfl, rfl, frJ_refl _ _, _, rfl, fun p _ => by
      rw [es, w1]
      rfl⟩
    exact this
/-- what the reference has found among the first N -/
def bInv (sp : Nat → Nat → Nat → Option Nat) (I : hI) (N : Nat) : Prop := ∃ S, I 31 18 = nI S ∧ S ≤ 1000000 ∧ ((S = 1000000 ∧ ∀ t dx j s, t < 8 → dx < 16 → j < 17 → t * 272 + dx * 17 + j < N → sp t dx j ≠ some s) ∨ ∃ (t0 dx0 j0 : Nat), t0 < 8 ∧ dx0 < 16 ∧ j0 < 17 ∧ t0 * 272 + dx0 * 17 + j0 < N ∧ sp t0 dx0 j0 = some S ∧ I 31 15 = nI t0 ∧ I 31 16 = nI dx0 ∧ I 31 17 = zI ((j0 : Int) - 8) ∧ ∀ t dx j s, t < 8 → dx < 16 → j < 17 → t * 272 + dx * 17 + j < N → sp t dx j = some s → S * 2176 + (t0 * 272 + dx0 * 17 + j0) ≤ s * 2176 + (t * 272 + dx * 17 + j))
set_option maxRecDepth 20000 in
/-- the next one brings nothing -/
theorem bInv_skip {sp : Nat → Nat → Nat → Option Nat} {I : hI} {t dx j : Nat} (ht : t < 8) (hdx : dx < 16) (hj : j < 17) (h : bInv sp I (t * 272 + dx * 17 + j)) (hn : ∀ s, sp t dx j = some s → ∀ S, I 31 18 = nI S → S ≤ 1000000 → S ≤ s ∧ s < 1000000) : bInv sp I (t * 272 + dx * 17 + j + 1) := by
  obtain ⟨S, h1, h2, h3⟩ := h
  have key : ∀ t' dx' j', t' < 8 → dx' < 16 → j' < 17 → t' * 272 + dx' * 17 + j' = t * 272 + dx * 17 + j → t' = t ∧ dx' = dx ∧ j' = j := fun t' dx' j' _ _ _ _ => by omega
  refine ⟨S, h1, h2, ?_⟩
  rcases h3 with ⟨e, h3⟩ | ⟨t0, dx0, j0, a1, a2, a3, a4, a5, a6, a7, a8, a9⟩
  · left
    refine ⟨e, fun t' dx' j' s g1 g2 g3 g4 hs => ?_⟩
    by_cases he : t' * 272 + dx' * 17 + j' = t * 272 + dx * 17 + j
    · obtain ⟨rfl, rfl, rfl⟩ := key t' dx' j' g1 g2 g3 he
      have := hn s hs S h1 h2
      omega
    · exact h3 t' dx' j' s g1 g2 g3 (by omega) hs
  · right
    refine ⟨t0, dx0, j0, a1, a2, a3, by omega, a5, a6, a7, a8, fun t' dx' j' s g1 g2 g3 g4 hs => ?_⟩
    by_cases he : t' * 272 + dx' * 17 + j' = t * 272 + dx * 17 + j
    · obtain ⟨rfl, rfl, rfl⟩ := key t' dx' j' g1 g2 g3 he
      have := hn s hs S h1 h2
      omega
    · exact a9 t' dx' j' s g1 g2 g3 (by omega) hs
set_option maxRecDepth 20000 in
theorem bInv_new {sp : Nat → Nat → Nat → Option Nat} {I I' : hI} {t dx j s : Nat} (ht : t < 8) (hdx : dx < 16) (hj : j < 17) (h : bInv sp I (t * 272 + dx * 17 + j)) (hs : sp t dx j = some s) (hlt : ∀ S, I 31 18 = nI S → S ≤ 1000000 → s < S) (h18 : I' 31 18 = nI s) (h15 : I' 31 15 = nI t) (h16 : I' 31 16 = nI dx) (h17 : I' 31 17 = zI ((j : Int) - 8)) : bInv sp I' (t * 272 + dx * 17 + j + 1) := by
  obtain ⟨S, h1, h2, h3⟩ := h
  have hl := hlt S h1 h2
  have key : ∀ t' dx' j', t' < 8 → dx' < 16 → j' < 17 → t' * 272 + dx' * 17 + j' = t * 272 + dx * 17 + j → t' = t ∧ dx' = dx ∧ j' = j := fun t' dx' j' _ _ _ _ => by omega
  refine ⟨s, h18, by omega, Or.inr ⟨t, dx, j, ht, hdx, hj, by omega, hs, h15, h16, h17, fun t' dx' j' s' g1 g2 g3 g4 hs' => ?_⟩⟩
  by_cases he : t' * 272 + dx' * 17 + j' = t * 272 + dx * 17 + j
  · obtain ⟨rfl, rfl, rfl⟩ := key t' dx' j' g1 g2 g3 he
    rw [hs] at hs'
    cases hs'
    omega
  · rcases h3 with ⟨e, h3⟩ | ⟨t0, dx0, j0, a1, a2, a3, a4, a5, a6, a7, a8, a9⟩
    · exact absurd hs' (h3 t' dx' j' s' g1 g2 g3 (by omega))
    · have := a9 t' dx' j' s' g1 g2 g3 (by omega) hs'
      omega
theorem m60_lt {q P L : Nat} (hL : L = min (q + 1) 60) (hP : P ≤ 43) (h : L ≤ P) : q < P := by omega
theorem m60_le {q p L : Nat} (hL : L = min (q + 1) 60) (h : p < L) : p ≤ q := by omega
abbrev x_fb : Type := (Nat × Nat × Nat × Nat) × (Nat × Nat × Nat × Nat) × Nat × Nat
abbrev e_fb : x_fb → List Value := fun x => [.ref 31, .int (nI x.1.1), .int (nI x.2.1.1)]
theorem v_fb (n : Nat) (h : 3 ≤ n) (x : x_fb) : okv (e_fb x) ∧ (lvA (e_fb x)).length ≤ n := ⟨okv_ref (okv_int (okv_int okv_nil)), h⟩
def fbPost (I I' : hI) (J J' : hJ) (sp : Nat → Nat → Nat → Option Nat) : Prop := frJ J J' [41, 42, 43] ∧ fr I I' [31, 35, 36] ∧ (∀ j, j ∉ [15, 16, 17, 18] → I' 31 j = I 31 j) ∧ ∃ (t dx j s : Nat), t < 8 ∧ dx < 16 ∧ j < 17 ∧ s < 1000000 ∧ I' 31 15 = nI t ∧ I' 31 16 = nI dx ∧ I' 31 17 = zI ((j : Int) - 8) ∧ I' 31 18 = nI s ∧ isBest sp (s * 2176 + t * 272 + dx * 17 + j)
def e_findB : ev := (3, 10, false, 0, 0, sn e_fb (fun x _ I _ _ => (rsh I x.1.1 x.1.2.1 x.1.2.2.1 x.1.2.2.2 ∧ exS x.1.2.1 x.1.2.2.1 x.1.2.2.2) ∧ (rsh I x.2.1.1 x.2.1.2.1 x.2.1.2.2.1 x.2.1.2.2.2 ∧ exS x.2.1.2.1 x.2.1.2.2.1 x.2.1.2.2.2) ∧ (I 37 0 = nI x.2.2.1 ∧ x.2.2.1 ≤ 3) ∧ I 37 1 = nI x.2.2.2 ∧ x.2.2.2 ≤ 3)
  (fun x _ I J Q v I' J' Q' => v = none ∧ Q' = Q ∧ fbPost I I' J J' (spC x.1.2.1 x.1.2.2.1 x.1.2.2.2 x.2.1.2.1 x.2.1.2.2.1 x.2.1.2.2.2 x.2.2.1 x.2.2.2)))
theorem rsh_of {I I' : hI} {s c w h : Nat} (hr : rsh I s c w h) (h1 : I' 32 = I 32) (h2 : I' 33 = I 33) (h3 : I' 34 = I 34) : rsh I' s c w h := by
  obtain ⟨a, b, c', d, e, f⟩ := hr
  exact ⟨a, b, fun y hy => by rw [h1]; exact c' y hy, by rw [h2]; exact d, by rw [h3]; exact e, f⟩
set_option maxRecDepth 20000 in
theorem c_findB {l : Launch} : CX l cdX10_findBest e_findB := by
  refine cm_sn RX10 edX10_findBest [e_turnOf, e_layB, e_rstrip, e_rpitch] false kX10_findBest cwX10_findBest okX10_findBest ⟨⟨_, rfl, c_turnOf⟩, ⟨_, rfl, c_layB⟩, ⟨_, rfl, c_rstrip⟩, ⟨_, rfl, c_rpitch⟩, trivial⟩ (by decide) rfl (v_fb _ (by decide)) ?_
  intro um zm G Rt ⟨⟨sa, ca, wa, ha⟩, ⟨sb, cb, wb, hb⟩, w, m⟩ a I J Q cl hbs hp hR
  obtain ⟨⟨hra, ea⟩, ⟨hrb, eb⟩, ⟨hI0, hw⟩, hI1, hm⟩ := hp
  have hra : rsh I sa ca wa ha := hra
  have ea : exS ca wa ha := ea
  have hrb : rsh I sb cb wb hb := hrb
  have eb : exS cb wb hb := eb
  have hI0 : I 37 0 = nI w := hI0
  have hw : w ≤ 3 := hw
  have hI1 : I 37 1 = nI m := hI1
  have hm : m ≤ 3 := hm
  have hR : ∀ v I' J' Q', (v = none ∧ Q' = Q ∧ fbPost I I' J J' (spC ca wa ha cb wb hb w m)) → Rt v a I' J' Q' := hR
  have hbest := bpT_best ea eb hw hm
  have hst : ∀ (t j : Nat), j < 17 → 1 ≤ stripZ ha (heightN (trn cb wb hb t)) m ((j : Int) - 8) ∧ stripZ ha (heightN (trn cb wb hb t)) m ((j : Int) - 8) ≤ 24 := fun t j hj => by
    have hs := height_spec (trn_ok eb t).1
    exact strip_bnd ea.2.2.2.1.1 ea.2.2.2.1.2 hs.1.1 hs.1.2 hm (by omega)
  -- one place: the loop's end at 144
  have l3 : ∀ d j t dx (v6 v7 v8 : Option Value) I' J', d + j = 17 → t < 8 → dx < 16 → fr I I' [31, 35, 36] → (∀ j, j ∉ [15, 16, 17, 18] → I' 31 j = I 31 j) → frJ J J' [41, 42, 43] → rwA I' 35 0 (trn cb wb hb t) → bInv (spC ca wa ha cb wb hb w m) I' (t * 272 + dx * 17 + j) → (∀ v5 v6 v7 v8 I2 J2, fr I I2 [31, 35, 36] → (∀ j, j ∉ [15, 16, 17, 18] → I2 31 j = I 31 j) → frJ J J2 [41, 42, 43] → rwA I2 35 0 (trn cb wb hb t) → bInv (spC ca wa ha cb wb hb w m) I2 (t * 272 + (dx + 1) * 17) → G 23 [some (.ref 31), some (.int (nI sa)), some (.int (nI sb)), some (.int (nI t)), some (.int (nI (dx + 1))), v5, v6, v7, v8] [] a I2 J2 Q) → G 34 [some (.ref 31), some (.int (nI sa)), some (.int (nI sb)), some (.int (nI t)), some (.int (nI dx)), some (.int (zI ((j : Int) - 8))), v6, v7, v8] [] a I' J' Q := by
    intro d
    induction d with
    | zero =>
      intro j t dx v6 v7 v8 I' J' hd ht hdx hf h31 hfJ h35 hinv hK
      obtain rfl : j = 17 := by omega
      refine cl [8, 23, 34, 101, 144] 90 34 _ _ _ _ _ _ ?_
      refine And.intro (fun _ => ?_) (fun h => absurd (by decide) h)
      have := hK (some (.int (zI (((17 : Nat) : Int) - 8)))) v6 v7 v8 I' J' hf h31 hfJ h35 (by rw [show t * 272 + (dx + 1) * 17 = t * 272 + dx * 17 + 17 by omega]; exact hinv)
      rw [← nI_1 dx] at this
      exact this
    | succ d ih =>
      intro j t dx v6 v7 v8 I' J' hd ht hdx hf h31 hfJ h35 hinv hK
      have hj : j < 17 := by omega
      have htk := trn_ok eb t
      have hws := width_spec htk.1
      have hhs := height_spec htk.1
      have hra' : rsh I' sa ca wa ha := rsh_of hra (hf 32 (by decide)) (hf 33 (by decide)) (hf 34 (by decide))
      have hpb : (pairS ca (widthN (trn cb wb hb t)) (heightN (trn cb wb hb t)) (trn cb wb hb t) w ((j : Int) - 8)).testBit (11 + dx) = true ↔ clash ca (trn cb wb hb t) w dx ((j : Int) - 8) := pair_bit ea.1 htk.1 (fit_own htk.1) hws.1.2 hhs.1.2 (by omega)
      have g144 : ∀ v6 v7 v8 I2 J2, fr I I2 [31, 35, 36] → (∀ j, j ∉ [15, 16, 17, 18] → I2 31 j = I 31 j) → frJ J J2 [41, 42, 43] → rwA I2 35 0 (trn cb wb hb t) → bInv (spC ca wa ha cb wb hb w m) I2 (t * 272 + dx * 17 + j + 1) → G 144 [some (.ref 31), some (.int (nI sa)), some (.int (nI sb)), some (.int (nI t)), some (.int (nI dx)), some (.int (zI ((j : Int) - 8))), v6, v7, v8] [] a I2 J2 Q := by
        intro v6 v7 v8 I2 J2 g1 g2 g3 g4 g5
        refine cl [8, 23, 34, 101, 144] 90 144 _ _ _ _ _ _ ?_
        have := ih (j + 1) t dx v6 v7 v8 I2 J2 (by omega) ht hdx g1 g2 g3 g4 g5 hK
        rw [show (((j + 1 : Nat) : Int) - 8) = ((j : Int) - 8) + 1 by omega, ← zI_add] at this
        exact this
      refine cl [8, 23, 34, 101, 144] 90 34 _ _ _ _ _ _ ?_
      refine And.intro (fun (h : (8 : Int32) < zI ((j : Int) - 8)) => ?_) (fun _ => ?_)
      · rw [show (8 : Int32) = zI 8 from rfl, zI_lt (by omega) (by omega) (by omega) (by omega)] at h
        omega
      refine Exists.intro ((sa, ca, trn cb wb hb t), dx, (j : Int) - 8, w) (And.intro rfl (And.intro (show (sa < 12 ∧ rwA I' 32 (8 * sa) ca ∧ ca < 2 ^ 64) ∧ (rwA I' 35 0 (trn cb wb hb t) ∧ trn cb wb hb t < 2 ^ 64) ∧ dx ≤ 31 ∧ (-8 ≤ (j : Int) - 8 ∧ (j : Int) - 8 ≤ 8) ∧ I' 37 0 = nI w ∧ w ≤ 3 from ⟨⟨hra'.1, hra'.2.2.1, ea.1⟩, ⟨h35, htk.1⟩, by omega, ⟨by omega, by omega⟩, by rw [hf 37 (by decide)]; exact hI0, hw⟩) ?_))
      rintro v I2 J2 Q2 ⟨rfl, rfl, hfJ2, b, rfl, hb1, hb2⟩
      have hb1 : b = true ↔ ¬ clash ca (trn cb wb hb t) w dx ((j : Int) - 8) := hb1
      have hb2 : b = true → ljA J2 41 (FU ca (trn cb wb hb t) dx ((j : Int) - 8)) := hb2
      have hfJ3 : frJ J J2 [41, 42, 43] := frJ_tr hfJ hfJ2 (fun _ h => h)
      refine bI_cases b (fun hbt => ?_) (fun hbf => ?_)
      · have hcl := hb1.mp hbt
        have hlj := hb2 hbt
        have hbit : (pairS ca (widthN (trn cb wb hb t)) (heightN (trn cb wb hb t)) (trn cb wb hb t) w ((j : Int) - 8)).testBit (11 + dx) = false := by
          cases hq : (pairS ca (widthN (trn cb wb hb t)) (heightN (trn cb wb hb t)) (trn cb wb hb t) w ((j : Int) - 8)).testBit (11 + dx) with
          | false => rfl
          | true => exact absurd (hpb.mp hq) hcl
        have hsp := spC_of (wa := wa) (ha := ha) (mg := m) hbit
        have hPi := pair_pitch (dy := (j : Int) - 8) (dx := dx) ea.1 ea.2.1 ea.2.2.1.2 ea.2.2.2.1.2 htk.1 (fit_own htk.1) hws.1.2 hhs.1.2 hw (by omega)
        generalize hPe : pitchN _ = P at hsp hPi
        have hst1 := hst t j hj
        obtain ⟨st, hst2⟩ : ∃ st : Nat, stripZ ha (heightN (trn cb wb hb t)) m ((j : Int) - 8) = st := ⟨(stripZ ha (heightN (trn cb wb hb t)) m ((j : Int) - 8)).toNat, by omega⟩
        rw [hst2] at hst1 hsp
        rw [show ((st : Int)).toNat = st from rfl] at hsp
        have hends := ends_two (dx := dx) ea.1 htk.1 (exS_cor ea) htk.2 (show -8 ≤ (j : Int) - 8 ∧ (j : Int) - 8 ≤ 8 by omega)
        have hstr : (7 + max (heightN ca : Int) ((j : Int) - 8 + heightN (trn cb wb hb t))).toNat - (8 + min 0 ((j : Int) - 8)).toNat + 1 + 2 * m = st := by
          have e1 := exS_h ea
          unfold stripZ at hst2
          rw [e1]
          have := ea.2.2.2.1
          omega
        have hP43 := pitch_le (B := 43) (by decide) (fun d hd => ucl_far (by omega) (by omega) hd) hPi
        have hsl : st * P < 1000000 := Nat.lt_of_le_of_lt (Nat.mul_le_mul (show st ≤ 24 by omega) hP43) (by decide)
        have e37 : I2 37 ((1 : Int32)).toNatClampNeg = nI m := by rw [show ((1 : Int32)).toNatClampNeg = 1 from rfl, hf 37 (by decide)]; exact hI1
        obtain ⟨S, hS1, hS2, hS3⟩ := hinv
        have hinv : bInv (spC ca wa ha cb wb hb w m) I2 (t * 272 + dx * 17 + j) := ⟨S, hS1, hS2, hS3⟩
        have hSpos : 1 ≤ S := by
          rcases hS3 with ⟨e, _⟩ | ⟨t0, dx0, j0, a1, a2, a3, a4, a5, _⟩
          · omega
          · obtain ⟨_, e2⟩ := spC_some a5
            rw [e2]
            have := (pitchN_le (selfN ca wa ha w ||| selfN (trn cb wb hb t0) (widthN (trn cb wb hb t0)) (heightN (trn cb wb hb t0)) w ||| acrN (pairS ca (widthN (trn cb wb hb t0)) (heightN (trn cb wb hb t0)) (trn cb wb hb t0) w ((j0 : Int) - 8)) (mirN (pairS ca (widthN (trn cb wb hb t0)) (heightN (trn cb wb hb t0)) (trn cb wb hb t0) w ((j0 : Int) - 8)) 23) dx0)).1
            exact Nat.mul_pos (by have := (hst t0 j0 a3).1; omega) this
        have hSS : ∀ S', I2 31 18 = nI S' → S' ≤ 1000000 → S' = S := fun S' h1 h2 => by
          rw [hS1, nI_eq (by omega) (by omega)] at h1
          exact h1.symm
        obtain ⟨q, hqe⟩ : ∃ q, q = (S - 1) / st := ⟨_, rfl⟩
        -- behind the limit
        have g101 : ∀ (v7 : Option Value) L, L = min (q + 1) 60 → G 101 [some (.ref 31), some (.int (nI sa)), some (.int (nI sb)), some (.int (nI t)), some (.int (nI dx)), some (.int (zI ((j : Int) - 8))), some (.int (nI st)), v7, v8] [.int (nI L)] a I2 J2 Q2 := by
          intro v7 L hL
          refine cl [8, 23, 34, 101, 144] 90 101 _ _ _ _ _ _ ?_
          refine Exists.intro (FU ca (trn cb wb hb t) dx ((j : Int) - 8), w, L) (And.intro rfl (And.intro (show ljA J2 41 (FU ca (trn cb wb hb t) dx ((j : Int) - 8)) ∧ (I2 37 0 = nI w ∧ w ≤ 3) ∧ 1 ≤ L ∧ L ≤ 60 from ⟨hlj, ⟨by rw [hf 37 (by decide)]; exact hI0, hw⟩, by omega, by omega⟩) ?_))
          rintro v I3 J3 Q3 ⟨rfl, rfl, hfJ4, p, rfl, hp⟩
          have hp : isPitch (clF (FU ca (trn cb wb hb t) dx ((j : Int) - 8)) w) L p := hp
          have hfJ5 : frJ J J3 [41, 42, 43] := frJ_tr hfJ3 hfJ4 (fun k h => by simp at h; rw [h]; decide)
          have hp2 := clF_pitch (fun d => clF_two (dx := dx) ea.1 htk.1 (show -8 ≤ (j : Int) - 8 ∧ (j : Int) - 8 ≤ 8 by omega)) hp
          have hlim := pitch_lim (B := 43) (by decide) (fun d hd => ucl_far (by omega) (by omega) hd) (by decide) hp2 hPi
          have hpl : p ≤ 60 := by have := hp.2.1; omega
          refine And.intro (fun (h : nI L ≤ nI p) => ?_) (fun (h : ¬ nI L ≤ nI p) => ?_)
          · rw [nI_leI (by omega) (by omega)] at h
            have hLP := hlim.2 (by omega)
            have hq : q < P := m60_lt hL hP43 hLP
            have hq2 : S - 1 < P * st := (Nat.div_lt_iff_lt_mul (by omega)).mp (hqe ▸ hq)
            have hq3 : P * st = st * P := Nat.mul_comm _ _
            refine g144 _ _ _ I3 J3 hf h31 hfJ5 h35 (bInv_skip ht hdx hj hinv (fun s hs S' h1 h2 => ?_))
            rw [hsp] at hs
            cases hs
            rw [hSS S' h1 h2]
            omega
          · rw [nI_leI (by omega) (by omega)] at h
            have hpP := hlim.1 (by omega)
            subst hpP
            have hq : p ≤ q := m60_le hL (by omega)
            have hq2 : p * st ≤ S - 1 := (Nat.le_div_iff_mul_le (by omega)).mp (hqe ▸ hq)
            have hq3 : p * st = st * p := Nat.mul_comm _ _
            have := g144 (some (.int (nI st))) (some (.int (nI L))) (some (.int (nI p))) (up2 (up2 (up2 (up2 I3 31 18 (nI p * nI st)) 31 15 (nI t)) 31 16 (nI dx)) 31 17 (zI ((j : Int) - 8))) J3 (fr_up (fr_up (fr_up (fr_up hf (by decide)) (by decide)) (by decide)) (by decide)) (fun i hi => by
              simp only [List.mem_cons, List.not_mem_nil, not_or] at hi
              rw [up2_nej hi.2.2.1, up2_nej hi.2.1, up2_nej hi.1, up2_nej hi.2.2.2.1]
              exact h31 i (by simp only [List.mem_cons, List.not_mem_nil, not_or]; exact hi)) hfJ5 (fun y hy => by rw [up2_ne (by decide), up2_ne (by decide), up2_ne (by decide), up2_ne (by decide)]; exact h35 y hy) (bInv_new ht hdx hj hinv hsp (fun S' h1 h2 => by rw [hSS S' h1 h2]; omega) (by rw [up2_nej (by decide), up2_nej (by decide), up2_nej (by decide), up2_at, pk_mul, hq3]) (by rw [up2_nej (by decide), up2_nej (by decide), up2_at]) (by rw [up2_nej (by decide), up2_at]) up2_at)
            exact this
        refine Exists.intro (FU ca (trn cb wb hb t) dx ((j : Int) - 8), (8 + min 0 ((j : Int) - 8)).toNat, (7 + max (heightN ca : Int) ((j : Int) - 8 + heightN (trn cb wb hb t))).toNat) (And.intro rfl (And.intro ⟨hlj, hends⟩ ?_))
        refine And.intro (show vp_in 1 3 from vp_in_nI (n := 1) (by decide) (by decide)) ?_
        have es : nI ((7 + max (heightN ca : Int) ((j : Int) - 8 + heightN (trn cb wb hb t))).toNat - (8 + min 0 ((j : Int) - 8)).toNat + 1) + 2 * I2 37 ((1 : Int32)).toNatClampNeg = nI st := by
          rw [e37, show (2 : Int32) = nI 2 from rfl, pk_mul, nI_add, hstr]
        have el : (I2 31 18 - 1) / (nI ((7 + max (heightN ca : Int) ((j : Int) - 8 + heightN (trn cb wb hb t))).toNat - (8 + min 0 ((j : Int) - 8)).toNat + 1) + 2 * I2 37 ((1 : Int32)).toNatClampNeg) + 1 = nI (q + 1) := by
          rw [es, hS1, show (1 : Int32) = nI 1 from rfl, pk_sub hSpos, pk_div (by omega) (by omega) (by omega), nI_add, hqe]
        have hdl : q ≤ S - 1 := by rw [hqe]; exact Nat.div_le_self _ _
        refine And.intro (show ¬ nI ((7 + max (heightN ca : Int) ((j : Int) - 8 + heightN (trn cb wb hb t))).toNat - (8 + min 0 ((j : Int) - 8)).toNat + 1) + 2 * I2 37 ((1 : Int32)).toNatClampNeg = 0 from by rw [es]; exact nI_ne0 (by omega) (by omega)) ?_
        refine And.intro (fun (h : (I2 31 18 - 1) / (nI ((7 + max (heightN ca : Int) ((j : Int) - 8 + heightN (trn cb wb hb t))).toNat - (8 + min 0 ((j : Int) - 8)).toNat + 1) + 2 * I2 37 ((1 : Int32)).toNatClampNeg) + 1 ≤ 60) => ?_) (fun (h : ¬ (I2 31 18 - 1) / (nI ((7 + max (heightN ca : Int) ((j : Int) - 8 + heightN (trn cb wb hb t))).toNat - (8 + min 0 ((j : Int) - 8)).toNat + 1) + 2 * I2 37 ((1 : Int32)).toNatClampNeg) + 1 ≤ 60) => ?_)
        · rw [el, show (60 : Int32) = nI 60 from rfl, nI_leI (by omega) (by decide)] at h
          have := g101 (some (.int (nI (q + 1)))) (q + 1) (by omega)
          rw [← el, ← es] at this
          exact this
        · rw [el, show (60 : Int32) = nI 60 from rfl, nI_leI (by omega) (by decide)] at h
          have := g101 (some (.int (nI (q + 1)))) 60 (by omega)
          rw [← el, ← es] at this
          exact this
      · have hcl : clash ca (trn cb wb hb t) w dx ((j : Int) - 8) := Classical.byContradiction (fun h => by rw [hb1.mpr h] at hbf; cases hbf)
        have hnone : ∀ s, spC ca wa ha cb wb hb w m t dx j ≠ some s := fun s hs => by
          have := (spC_some hs).1
          rw [hpb.mpr hcl] at this
          cases this
        exact g144 v6 v7 v8 I2 J2 hf h31 hfJ3 h35 (bInv_skip ht hdx hj hinv (fun s hs => absurd hs (hnone s)))
  have l2 : ∀ d dx t (v5 v6 v7 v8 : Option Value) I' J', d + dx = 16 → t < 8 → fr I I' [31, 35, 36] → (∀ j, j ∉ [15, 16, 17, 18] → I' 31 j = I 31 j) → frJ J J' [41, 42, 43] → rwA I' 35 0 (trn cb wb hb t) → bInv (spC ca wa ha cb wb hb w m) I' (t * 272 + dx * 17) → (∀ v4 v5 v6 v7 v8 I2 J2, fr I I2 [31, 35, 36] → (∀ j, j ∉ [15, 16, 17, 18] → I2 31 j = I 31 j) → frJ J J2 [41, 42, 43] → bInv (spC ca wa ha cb wb hb w m) I2 ((t + 1) * 272) → G 8 [some (.ref 31), some (.int (nI sa)), some (.int (nI sb)), some (.int (nI (t + 1))), v4, v5, v6, v7, v8] [] a I2 J2 Q) → G 23 [some (.ref 31), some (.int (nI sa)), some (.int (nI sb)), some (.int (nI t)), some (.int (nI dx)), v5, v6, v7, v8] [] a I' J' Q := by
    intro d
    induction d with
    | zero =>
      intro dx t v5 v6 v7 v8 I' J' hd ht hf h31 hfJ h35 hinv hK
      obtain rfl : dx = 16 := by omega
      refine cl [8, 23, 34, 101, 144] 90 23 _ _ _ _ _ _ ?_
      refine And.intro (fun _ => ?_) (fun h => absurd (by decide) h)
      have := hK (some (.int (nI 16))) v5 v6 v7 v8 I' J' hf h31 hfJ (by rw [show (t + 1) * 272 = t * 272 + 16 * 17 by omega]; exact hinv)
      rw [← nI_1 t] at this
      exact this
    | succ d ih =>
      intro dx t v5 v6 v7 v8 I' J' hd ht hf h31 hfJ h35 hinv hK
      refine cl [8, 23, 34, 101, 144] 90 23 _ _ _ _ _ _ ?_
      refine And.intro (fun h => absurd h (nI_ge (a := dx) (b := 16) (by omega) (by decide))) (fun _ => ?_)
      exact l3 17 0 t dx v6 v7 v8 I' J' rfl ht (by omega) hf h31 hfJ h35 hinv (fun v5 v6 v7 v8 I2 J2 g1 g2 g3 g4 g5 => ih (dx + 1) t v5 v6 v7 v8 I2 J2 (by omega) ht g1 g2 g3 g4 g5 hK)
  have l1 : ∀ d t (v4 v5 v6 v7 v8 : Option Value) I' J', d + t = 8 → fr I I' [31, 35, 36] → (∀ j, j ∉ [15, 16, 17, 18] → I' 31 j = I 31 j) → frJ J J' [41, 42, 43] → bInv (spC ca wa ha cb wb hb w m) I' (t * 272) → G 8 [some (.ref 31), some (.int (nI sa)), some (.int (nI sb)), some (.int (nI t)), v4, v5, v6, v7, v8] [] a I' J' Q := by
    intro d
    induction d with
    | zero =>
      intro t v4 v5 v6 v7 v8 I' J' hd hf h31 hfJ hinv
      obtain rfl : t = 8 := by omega
      refine cl [8, 23, 34, 101, 144] 90 8 _ _ _ _ _ _ ?_
      refine And.intro (fun _ => hR _ _ _ _ ⟨rfl, rfl, hfJ, hf, h31, ?_⟩) (fun h => absurd (by decide) h)
      obtain ⟨S, h1, h2, h3⟩ := hinv
      obtain ⟨t1, dx1, j1, s1, q1, q2, q3, q4, q5⟩ := hbest.1.1
      rcases h3 with ⟨e, h3⟩ | ⟨t0, dx0, j0, a1, a2, a3, a4, a5, a6, a7, a8, a9⟩
      · exact absurd q4 (h3 t1 dx1 j1 s1 q1 q2 q3 (by omega))
      · have hSl : S < 1000000 := by
          have := a9 t1 dx1 j1 s1 q1 q2 q3 (by omega) q4
          have := hbest.2
          omega
        refine ⟨t0, dx0, j0, S, a1, a2, a3, hSl, a6, a7, a8, h1, ⟨t0, dx0, j0, S, a1, a2, a3, a5, rfl⟩, ?_⟩
        rintro M' ⟨t', dx', j', s', r1, r2, r3, r4, rfl⟩
        have := a9 t' dx' j' s' r1 r2 r3 (by omega) r4
        omega
    | succ d ih =>
      intro t v4 v5 v6 v7 v8 I' J' hd hf h31 hfJ hinv
      have hrb' : rsh I' sb cb wb hb := rsh_of hrb (hf 32 (by decide)) (hf 33 (by decide)) (hf 34 (by decide))
      refine cl [8, 23, 34, 101, 144] 90 8 _ _ _ _ _ _ ?_
      refine And.intro (fun h => absurd h (nI_ge (a := t) (b := 8) (by omega) (by decide))) (fun _ => ?_)
      refine Exists.intro (sb, t, cb, wb, hb) (And.intro rfl (And.intro (show rsh I' sb cb wb hb ∧ t < 8 from ⟨hrb', by omega⟩) ?_))
      rintro v I2 J2 Q2 ⟨rfl, rfl, rfl, hf2, h35⟩
      have hf3 : fr I I2 [31, 35, 36] := fr_tr hf hf2 (fun k h => by simp at h; rcases h with rfl | rfl <;> decide)
      have h31' : ∀ j, j ∉ [15, 16, 17, 18] → I2 31 j = I 31 j := fun j hj => by rw [hf2 31 (by decide)]; exact h31 j hj
      have hinv' : bInv (spC ca wa ha cb wb hb w m) I2 (t * 272 + 0 * 17) := by
        obtain ⟨S, h1, h2⟩ := hinv
        exact ⟨S, by rw [hf2 31 (by decide)]; exact h1, by rw [hf2 31 (by decide)]; exact h2⟩
      exact l2 16 0 t v5 v6 v7 v8 I2 J2 rfl (by omega) hf3 h31' hfJ h35 hinv' (fun v4 v5 v6 v7 v8 I3 J3 g1 g2 g3 g4 => ih (t + 1) v4 v5 v6 v7 v8 I3 J3 (by omega) g1 g2 g3 g4)
  refine cl [8, 23, 34, 101, 144] 90 0 _ _ _ _ _ _ ?_
  have := l1 8 0 none none none none none (up2 I 31 18 1000000) J rfl (fr_up (fr_refl _ _) (by decide)) (fun j hj => by
    simp only [List.mem_cons, List.not_mem_nil, not_or] at hj
    rw [up2_nej hj.2.2.2.1]) (frJ_refl _ _) ⟨1000000, up2_at, Nat.le_refl _, Or.inl ⟨rfl, fun t dx j s _ _ _ h => by omega⟩⟩
  exact this
