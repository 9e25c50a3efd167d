/-! REFERENCE: laws, walls, mates -/
def lawR (I : hI) (B : Nat → Nat) (m : Nat) : Prop := I 31 19 = nI m ∧ m ≤ 10 ∧ (∀ p, p < 10 → I 49 p = nI (B p)) ∧ ∀ p, p < 10 → B p < 2 ^ m
theorem lawR_lt {I : hI} {B : Nat → Nat} {m : Nat} (h : lawR I B m) : ∀ p, p < 10 → B p < 1024 := fun p hp => Nat.lt_of_lt_of_le (h.2.2.2 p hp) (show 2 ^ m ≤ 2 ^ 10 from Nat.pow_le_pow_right (by decide) h.2.1)
theorem zI_sub (a b : Int) : zI a - zI b = zI (a - b) := (Int32.ofInt_sub a b).symm
theorem sbs_le {a b : Nat} (h : sbs a b) : a ≤ b := by
  have : a &&& b = a := sub_of h
  rw [← this]
  exact Nat.and_le_right
abbrev x_aa : Type := Nat × Nat × (Nat → Nat)
abbrev e_aa : x_aa → List Value := fun x => [.ref 31, .int (nI x.1)]
theorem v_aa (n : Nat) (h : 2 ≤ n) (x : x_aa) : okv (e_aa x) ∧ (lvA (e_aa x)).length ≤ n := ⟨okv_ref (okv_int okv_nil), h⟩
def e_ahead : ev := (2, 10, false, 0, 0, sf e_aa (fun x _ I _ _ => lawR I x.2.2 x.2.1 ∧ x.1 < x.2.1) (fun x _ _ _ _ => some (.int (nI (mlr x.2.2 (x.2.2 x.1) 9)))))
set_option maxRecDepth 20000 in
theorem c_ahead {l : Launch} : CX l cdX10_allAhead e_ahead := by
  refine cm_sf RX10 edX10_allAhead [] false kX10_allAhead cwX10_allAhead okX10_allAhead trivial (by decide) rfl (v_aa _ (by decide)) ?_
  intro um zm G Rt ⟨p, m, B⟩ a I J Q cl hb hp hR
  obtain ⟨hl, hpm⟩ := hp
  have hl : lawR I B m := hl
  have hpm : p < m := hpm
  have hlt := lawR_lt hl
  obtain ⟨h19, hm, hB, hBm⟩ := hl
  have hcl := mlr_cl hlt (hlt p (by omega))
  have hR : ∀ v, v = some (Value.int (nI (mlr B (B p) 9))) → Rt v a I J Q := hR
  have h2m : 2 ^ m ≤ 2 ^ 10 := Nat.pow_le_pow_right (by decide) hm
  -- the rounds
  have main : ∀ d had all (v4 : Option Value), 1024 ≤ d + had → all < 2 ^ m → sbs had all → sbs (B p) all → (∀ q, had.testBit q = true → sbs (B q) all) → (∀ c, sbs (B p) c → clsd B c → sbs all c) → G 9 [some (.ref 31), some (.int (nI p)), some (.int (nI all)), some (.int (nI had)), v4] [] a I J Q := by
    intro d
    induction d with
    | zero =>
      intro had all v4 hd ha hs _ _ _
      have := sbs_le hs
      omega
    | succ d ih =>
      intro had all v4 hd ha hs hBp hcl2 hmin
      have hle := sbs_le hs
      have inner : ∀ e q all2, e + q = m → all2 < 2 ^ m → sbs all all2 → (∀ r, r < q → all.testBit r = true → sbs (B r) all2) → (∀ c, sbs (B p) c → clsd B c → sbs all2 c) → (∀ all3 v4, all3 < 2 ^ m → sbs all all3 → (∀ r, all.testBit r = true → sbs (B r) all3) → (∀ c, sbs (B p) c → clsd B c → sbs all3 c) → G 9 [some (.ref 31), some (.int (nI p)), some (.int (nI all3)), some (.int (nI all)), v4] [] a I J Q) → G 19 [some (.ref 31), some (.int (nI p)), some (.int (nI all2)), some (.int (nI all)), some (.int (nI q))] [] a I J Q := by
        intro e
        induction e with
        | zero =>
          intro q all2 he ha2 hs2 hB2 hm2 hK
          obtain rfl : q = m := by omega
          refine cl [9, 19, 50] 60 19 _ _ _ _ _ _ ?_
          refine And.intro (fun _ => hK all2 _ ha2 hs2 (fun r hr => hB2 r (bit_lt ha hr) hr) hm2) (fun (h : ¬ I 31 19 ≤ nI q) => absurd (by rw [h19]; exact nI_le (Nat.le_refl _) (by omega)) h)
        | succ e ihe =>
          intro q all2 he ha2 hs2 hB2 hm2 hK
          have hq : q < m := by omega
          have g50 : ∀ x, x < 2 ^ m → (∀ c, sbs (B p) c → clsd B c → sbs x c) → (all.testBit q = true → sbs (B q) x) → G 50 [some (.ref 31), some (.int (nI p)), some (.int (nI all2)), some (.int (nI all)), some (.int (nI q))] [.int (nI x), .int (nI all2)] a I J Q := by
            intro x hx hxm hxb
            refine cl [9, 19, 50] 60 50 _ _ _ _ _ _ ?_
            have := ihe (q + 1) (all2 ||| x) (by omega) (or_bnd ha2 hx) (fun r hr => by rw [Nat.testBit_or, hs2 r hr, Bool.true_or]) (fun r hr hrb => by
              intro z hz
              rw [Nat.testBit_or, Bool.or_eq_true]
              by_cases e : r = q
              · subst e; exact Or.inr (hxb hrb z hz)
              · exact Or.inl (hB2 r (by omega) hrb z hz)) (fun c h1 h2 z hz => by
              rw [Nat.testBit_or, Bool.or_eq_true] at hz
              rcases hz with hz | hz
              · exact hm2 c h1 h2 z hz
              · exact hxm c h1 h2 z hz) hK
            rw [← nI_1 q, ← fa_or] at this
            exact this
          have hbit := bit1 (v := all) (x := q) (by omega) (by omega)
          refine cl [9, 19, 50] 60 19 _ _ _ _ _ _ ?_
          refine And.intro (fun (h : I 31 19 ≤ nI q) => absurd h (by rw [h19]; exact nI_ge hq (by omega))) (fun _ => And.intro (fun (h : ¬ (nI all >>> (nI q &&& 31)) &&& 1 = 1) => ?_) (fun (h : (nI all >>> (nI q &&& 31)) &&& 1 = 1) => ?_))
          · rw [hbit] at h
            exact g50 0 (Nat.two_pow_pos m) (fun c _ _ z hz => by rw [Nat.zero_testBit] at hz; cases hz) (fun hb => by rw [if_pos hb] at h; exact absurd rfl h)
          · rw [hbit] at h
            have hb : all.testBit q = true := by
              cases hq' : all.testBit q with
              | true => rfl
              | false => rw [hq', if_neg (by decide)] at h; exact absurd h (by decide)
            refine And.intro (show vp_in (nI q) 10 from vp_in_nI (by omega) (by decide)) ?_
            have e1 : I 49 (nI q).toNatClampNeg = nI (B q) := by rw [nI_clamp (by omega)]; exact hB q (by omega)
            have := g50 (B q) (hBm q (by omega)) (fun c h1 h2 z hz => h2 q (hmin c h1 h2 q hb) z hz) (fun _ => sbs_refl _)
            rw [← e1] at this
            exact this
      refine cl [9, 19, 50] 60 9 _ _ _ _ _ _ ?_
      refine And.intro (fun (h : nI had = nI all) => hR _ ?_) (fun (h : ¬ nI had = nI all) => ?_)
      · rw [nI_eq (by omega) (by omega)] at h
        subst h
        rw [isCl_one hcl ⟨hBp, fun q hq => hcl2 q hq, hmin⟩]
      · rw [nI_eq (by omega) (by omega)] at h
        refine inner m 0 all (by omega) ha (sbs_refl _) (fun r hr => by omega) hmin (fun all3 v4 h1 h2 h3 h4 => ?_)
        exact ih all all3 v4 (by omega) h1 h2 (fun z hz => h2 z (hBp z hz)) h3 h4
  refine cl [9, 19, 50] 60 0 _ _ _ _ _ _ ?_
  refine And.intro (show vp_in (nI p) 10 from vp_in_nI (by omega) (by decide)) ?_
  have e1 : I 49 (nI p).toNatClampNeg = nI (B p) := by rw [nI_clamp (by omega)]; exact hB p (by omega)
  have := main 1024 0 (B p) none (by omega) (hBm p (by omega)) (fun z hz => by rw [Nat.zero_testBit] at hz; cases hz) (sbs_refl _) (fun q hq => by rw [Nat.zero_testBit] at hq; cases hq) (fun c h1 _ => h1)
  rw [← e1] at this
  exact this
/-- hasCell at whole numbers -/
theorem hc_z {c : Nat} (hc : c < 2 ^ 64) {x y : Int} (hx : -1000 ≤ x ∧ x ≤ 1000) (hy : -1000 ≤ y ∧ y ≤ 1000) : hcB c (zI x) (zI y) = true ↔ ∃ b, c.testBit b = true ∧ ((b % 8 : Nat) : Int) = x ∧ ((b / 8 : Nat) : Int) = y := by
  have hwi : ∀ z : Int, -1000 ≤ z ∧ z ≤ 1000 → (wi (zI z) 0 7 = true ↔ 0 ≤ z ∧ z ≤ 7) := fun z hz => by
    unfold wi
    rw [Bool.and_eq_true, decide_eq_true_iff, decide_eq_true_iff, show (0 : Int32) = zI 0 from rfl, show (7 : Int32) = zI 7 from rfl, zI_le (by omega) (by omega) (by omega) (by omega), zI_le (by omega) (by omega) (by omega) (by omega)]
  unfold hcB
  rw [Bool.and_eq_true, Bool.and_eq_true, hwi x hx, hwi y hy]
  constructor
  · rintro ⟨⟨h1, h2⟩, h3⟩
    obtain ⟨i, rfl⟩ : ∃ i : Nat, x = i := ⟨x.toNat, by omega⟩
    obtain ⟨j, rfl⟩ : ∃ j : Nat, y = j := ⟨y.toNat, by omega⟩
    rw [← zI_nat, ← zI_nat, nI_clamp (by omega), nI_clamp (by omega)] at h3
    exact ⟨_, h3, by omega, by omega⟩
  · rintro ⟨b, h1, h2, h3⟩
    have := bit_lt hc h1
    subst h2 h3
    refine ⟨⟨by omega, by omega⟩, ?_⟩
    rw [← zI_nat, ← zI_nat, nI_clamp (by omega), nI_clamp (by omega), show 8 * (b / 8) + b % 8 = b by omega]
    exact h1
/-- the punches of the reference: where they are, their cells -/
def rpn (I : hI) (m : Nat) (S X Y C : Nat → Nat) : Prop := ∀ p, p < m → (I 45 p = nI (S p) ∧ S p < 12) ∧ (rwA I 32 (8 * S p) (C p) ∧ C p < 2 ^ 64) ∧ (I 46 p = nI (X p) ∧ X p ≤ 60) ∧ I 47 p = nI (Y p) ∧ Y p ≤ 20
def wal (C X Y : Nat → Nat) (g p q : Nat) : Prop := ¬ clash (C p) (C q) g ((X q : Int) - X p) ((Y q : Int) - Y p)
abbrev x_iw : Type := (Nat × Nat) × Nat × Nat × (Nat → Nat) × (Nat → Nat) × (Nat → Nat) × (Nat → Nat)
abbrev e_iw : x_iw → List Value := fun x => [.ref 31, .int (nI x.1.1), .int (nI x.1.2)]
theorem v_iw (n : Nat) (h : 3 ≤ n) (x : x_iw) : okv (e_iw x) ∧ (lvA (e_iw x)).length ≤ n := ⟨okv_ref (okv_int (okv_int okv_nil)), h⟩
def e_walled : ev := (3, 10, false, 0, 0, sn e_iw (fun x _ I _ _ => (x.1.1 < x.2.1 ∧ x.1.2 < x.2.1) ∧ x.2.1 ≤ 10 ∧ (I 37 2 = nI x.2.2.1 ∧ x.2.2.1 ≤ 4) ∧ rpn I x.2.1 x.2.2.2.1 x.2.2.2.2.1 x.2.2.2.2.2.1 x.2.2.2.2.2.2) (fun x _ I J Q v I' J' Q' => I' = I ∧ J' = J ∧ Q' = Q ∧ ∃ b, v = some (.int (bI b)) ∧ (b = true ↔ wal x.2.2.2.2.2.2 x.2.2.2.2.1 x.2.2.2.2.2.1 x.2.2.1 x.1.1 x.1.2)))
set_option maxRecDepth 20000 in
theorem c_walled {l : Launch} : CX l cdX10_isWalled e_walled := by
  refine cm_sn RX10 edX10_isWalled [e_hasCell] true kX10_isWalled cwX10_isWalled okX10_isWalled ⟨⟨_, rfl, c_hasCell⟩, trivial⟩ (by decide) rfl (v_iw _ (by decide)) ?_
  intro um zm G Rt ⟨⟨p, q⟩, m, g, S, X, Y, C⟩ a I J Q cl hb hp hR
  obtain ⟨⟨hp1, hq1⟩, hm, ⟨hI2, hg⟩, hpn⟩ := hp
  have hp1 : p < m := hp1
  have hq1 : q < m := hq1
  have hm : m ≤ 10 := hm
  have hI2 : I 37 2 = nI g := hI2
  have hg : g ≤ 4 := hg
  have hpn : rpn I m S X Y C := hpn
  have hR : ∀ v I' J' Q', (I' = I ∧ J' = J ∧ Q' = Q ∧ ∃ b, v = some (Value.int (bI b)) ∧ (b = true ↔ wal C X Y g p q)) → Rt v a I' J' Q' := hR
  obtain ⟨⟨hS1, hS2⟩, ⟨hr1, hc1⟩, ⟨hX1, hX2⟩, hY1, hY2⟩ := hpn p hp1
  obtain ⟨⟨hS1', hS2'⟩, ⟨hr1', hc1'⟩, ⟨hX1', hX2'⟩, hY1', hY2'⟩ := hpn q hq1
  have ecp : (nI p).toNatClampNeg = p := nI_clamp (by omega)
  have ecq : (nI q).toNatClampNeg = q := nI_clamp (by omega)
  have hinp : vp_in (nI p) 10 := vp_in_nI (by omega) (by decide)
  have hinq : vp_in (nI q) 10 := vp_in_nI (by omega) (by decide)
  have eSp : I 45 (nI p).toNatClampNeg = nI (S p) := by rw [ecp]; exact hS1
  have eSq : I 45 (nI q).toNatClampNeg = nI (S q) := by rw [ecq]; exact hS1'
  -- one cell of the first: no cell of the other is near
  have bad : ∀ x y b2, (C p).testBit (8 * y + x) = true → x < 8 → (C q).testBit b2 = true → (-(g : Int) ≤ (b2 % 8 : Nat) + ((X q : Int) - X p) - x ∧ ((b2 % 8 : Nat) : Int) + ((X q : Int) - X p) - x ≤ g) → (-(g : Int) ≤ (b2 / 8 : Nat) + ((Y q : Int) - Y p) - y ∧ ((b2 / 8 : Nat) : Int) + ((Y q : Int) - Y p) - y ≤ g) → ¬ wal C X Y g p q := by
    intro x y b2 h1 hx h2 h3 h4 h
    exact h ⟨8 * y + x, b2, h1, h2, by rw [show (8 * y + x) % 8 = x by omega]; exact h3, by rw [show (8 * y + x) / 8 = y by omega]; exact h4⟩
  have l4 : ∀ (d : Nat) (i : Int) (x y : Nat) (k u v : Int), x < 8 → y < 8 → u = (X p : Int) + x - X q → v = (Y p : Int) + y - Y q → (d : Int) + i = u + g + 1 → u - g ≤ i → (v - g ≤ k ∧ k ≤ v + g) → (C p).testBit (8 * y + x) = true → (∀ b2, (C q).testBit b2 = true → ((b2 / 8 : Nat) : Int) = k → u - g ≤ (b2 % 8 : Nat) → ((b2 % 8 : Nat) : Int) < i → False) → (∀ v9, (∀ b2, (C q).testBit b2 = true → ((b2 / 8 : Nat) : Int) = k → u - g ≤ (b2 % 8 : Nat) → ((b2 % 8 : Nat) : Int) ≤ u + g → False) → G 89 [some (.ref 31), some (.int (nI p)), some (.int (nI q)), some (.int (nI g)), some (.int (nI y)), some (.int (nI x)), some (.int (zI u)), some (.int (zI v)), some (.int (zI (k + 1))), v9] [] a I J Q) → G 104 [some (.ref 31), some (.int (nI p)), some (.int (nI q)), some (.int (nI g)), some (.int (nI y)), some (.int (nI x)), some (.int (zI u)), some (.int (zI v)), some (.int (zI k)), some (.int (zI i))] [] a I J Q := by
    intro d
    induction d with
    | zero =>
      intro i x y k u v hx hy hu hv hd hi hk hbit hno hK
      have e1 : zI u + nI g = zI (u + g) := by rw [zI_nat, zI_add]
      refine cl [10, 20, 89, 104, 144] 90 104 _ _ _ _ _ _ ?_
      refine And.intro (fun _ => ?_) (fun (h : ¬ zI u + nI g < zI i) => absurd (by rw [e1, zI_lt (by omega) (by omega) (by omega) (by omega)]; omega) h)
      have := hK (some (.int (zI i))) (fun b2 h1 h2 h3 h4 => hno b2 h1 h2 h3 (by omega))
      rw [← zI_add] at this
      exact this
    | succ d ih =>
      intro i x y k u v hx hy hu hv hd hi hk hbit hno hK
      have e1 : zI u + nI g = zI (u + g) := by rw [zI_nat, zI_add]
      have hcz := hc_z hc1' (x := i) (y := k) (by omega) (by omega)
      refine cl [10, 20, 89, 104, 144] 90 104 _ _ _ _ _ _ ?_
      refine And.intro (fun (h : zI u + nI g < zI i) => ?_) (fun _ => And.intro hinq ?_)
      · rw [e1, zI_lt (by omega) (by omega) (by omega) (by omega)] at h
        omega
      refine Exists.intro (S q, zI i, zI k, C q) (And.intro (show [Value.ref 31, .int (I 45 (nI q).toNatClampNeg), .int (zI i), .int (zI k)] = [Value.ref 31, .int (nI (S q)), .int (zI i), .int (zI k)] by rw [eSq]) (And.intro ⟨hS2', hr1'⟩ ?_))
      refine bI_cases' (hcB (C q) (zI i) (zI k)) (fun hb => And.intro (Or.inl rfl) (hR _ _ _ _ ⟨rfl, rfl, rfl, false, rfl, ⟨fun h => (by cases h), fun h => ?_⟩⟩)) (fun hb => ?_)
      · obtain ⟨b2, g1, g2, g3⟩ := hcz.mp hb
        exact absurd h (bad x y b2 hbit hx g1 (by omega) (by omega))
      · have := ih (i + 1) x y k u v hx hy hu hv (by omega) (by omega) hk hbit (fun b2 h1 h2 h3 h4 => ?_) hK
        · rw [← zI_add] at this
          exact this
        · by_cases e : ((b2 % 8 : Nat) : Int) = i
          · rw [hcz.mpr ⟨b2, h1, e, h2⟩] at hb
            cases hb
          · exact hno b2 h1 h2 h3 (by omega)
  have l3 : ∀ (d : Nat) (k : Int) (x y : Nat) (u v : Int) (v9 : Option Value), x < 8 → y < 8 → u = (X p : Int) + x - X q → v = (Y p : Int) + y - Y q → (d : Int) + k = v + g + 1 → v - g ≤ k → (C p).testBit (8 * y + x) = true → (∀ b2, (C q).testBit b2 = true → v - g ≤ (b2 / 8 : Nat) → ((b2 / 8 : Nat) : Int) < k → u - g ≤ (b2 % 8 : Nat) → ((b2 % 8 : Nat) : Int) ≤ u + g → False) → (∀ (v6 v7 v8 v9 : Option Value), (∀ b2, (C q).testBit b2 = true → v - g ≤ (b2 / 8 : Nat) → ((b2 / 8 : Nat) : Int) ≤ v + g → u - g ≤ (b2 % 8 : Nat) → ((b2 % 8 : Nat) : Int) ≤ u + g → False) → G 144 [some (.ref 31), some (.int (nI p)), some (.int (nI q)), some (.int (nI g)), some (.int (nI y)), some (.int (nI x)), v6, v7, v8, v9] [] a I J Q) → G 89 [some (.ref 31), some (.int (nI p)), some (.int (nI q)), some (.int (nI g)), some (.int (nI y)), some (.int (nI x)), some (.int (zI u)), some (.int (zI v)), some (.int (zI k)), v9] [] a I J Q := by
    intro d
    induction d with
    | zero =>
      intro k x y u v v9 hx hy hu hv hd hk hbit hno hK
      have e1 : zI v + nI g = zI (v + g) := by rw [zI_nat, zI_add]
      refine cl [10, 20, 89, 104, 144] 90 89 _ _ _ _ _ _ ?_
      exact And.intro (fun _ => hK _ _ _ _ (fun b2 h1 h2 h3 h4 h5 => hno b2 h1 h2 (by omega) h4 h5)) (fun (h : ¬ zI v + nI g < zI k) => absurd (by rw [e1, zI_lt (by omega) (by omega) (by omega) (by omega)]; omega) h)
    | succ d ih =>
      intro k x y u v v9 hx hy hu hv hd hk hbit hno hK
      have e1 : zI v + nI g = zI (v + g) := by rw [zI_nat, zI_add]
      have e2 : zI u - nI g = zI (u - g) := by rw [zI_nat]; exact (Int32.ofInt_sub _ _).symm
      refine cl [10, 20, 89, 104, 144] 90 89 _ _ _ _ _ _ ?_
      refine And.intro (fun (h : zI v + nI g < zI k) => ?_) (fun _ => ?_)
      · rw [e1, zI_lt (by omega) (by omega) (by omega) (by omega)] at h
        omega
      have := l4 (2 * g + 1) (u - g) x y k u v hx hy hu hv (by omega) (by omega) (by omega) hbit (fun b2 _ _ h3 h4 => by omega) (fun v9 hno2 => ih (k + 1) x y u v v9 hx hy hu hv (by omega) (by omega) hbit (fun b2 h1 h2 h3 h4 h5 => by
        by_cases e : ((b2 / 8 : Nat) : Int) = k
        · exact hno2 b2 h1 e h4 h5
        · exact hno b2 h1 h2 (by omega) h4 h5) hK)
      rw [← e2] at this
      exact this
  -- no cell before this one is near
  have l2 : ∀ d x y (v6 v7 v8 v9 : Option Value), d + x = 8 → y < 8 → (∀ b1 b2, (C p).testBit b1 = true → (C q).testBit b2 = true → (b1 / 8 < y ∨ (b1 / 8 = y ∧ b1 % 8 < x)) → (-(g : Int) ≤ (b2 % 8 : Nat) + ((X q : Int) - X p) - (b1 % 8 : Nat) ∧ ((b2 % 8 : Nat) : Int) + ((X q : Int) - X p) - (b1 % 8 : Nat) ≤ g) → (-(g : Int) ≤ (b2 / 8 : Nat) + ((Y q : Int) - Y p) - (b1 / 8 : Nat) ∧ ((b2 / 8 : Nat) : Int) + ((Y q : Int) - Y p) - (b1 / 8 : Nat) ≤ g) → False) → (∀ (v5 v6 v7 v8 v9 : Option Value), (∀ b1 b2, (C p).testBit b1 = true → (C q).testBit b2 = true → b1 / 8 < y + 1 → (-(g : Int) ≤ (b2 % 8 : Nat) + ((X q : Int) - X p) - (b1 % 8 : Nat) ∧ ((b2 % 8 : Nat) : Int) + ((X q : Int) - X p) - (b1 % 8 : Nat) ≤ g) → (-(g : Int) ≤ (b2 / 8 : Nat) + ((Y q : Int) - Y p) - (b1 / 8 : Nat) ∧ ((b2 / 8 : Nat) : Int) + ((Y q : Int) - Y p) - (b1 / 8 : Nat) ≤ g) → False) → G 10 [some (.ref 31), some (.int (nI p)), some (.int (nI q)), some (.int (nI g)), some (.int (nI (y + 1))), v5, v6, v7, v8, v9] [] a I J Q) → G 20 [some (.ref 31), some (.int (nI p)), some (.int (nI q)), some (.int (nI g)), some (.int (nI y)), some (.int (nI x)), v6, v7, v8, v9] [] a I J Q := by
    intro d
    induction d with
    | zero =>
      intro x y v6 v7 v8 v9 hd hy hno hK
      obtain rfl : x = 8 := by omega
      refine cl [10, 20, 89, 104, 144] 90 20 _ _ _ _ _ _ ?_
      refine And.intro (fun _ => ?_) (fun h => absurd (by decide) h)
      have := hK (some (.int (nI 8))) v6 v7 v8 v9 (fun b1 b2 h1 h2 h3 => hno b1 b2 h1 h2 (by omega))
      rw [← nI_1 y] at this
      exact this
    | succ d ih =>
      intro x y v6 v7 v8 v9 hd hy hno hK
      have hx : x < 8 := by omega
      have g144 : ∀ (v6 v7 v8 v9 : Option Value), (∀ b2, (C p).testBit (8 * y + x) = true → (C q).testBit b2 = true → (-(g : Int) ≤ (b2 % 8 : Nat) + ((X q : Int) - X p) - x ∧ ((b2 % 8 : Nat) : Int) + ((X q : Int) - X p) - x ≤ g) → (-(g : Int) ≤ (b2 / 8 : Nat) + ((Y q : Int) - Y p) - y ∧ ((b2 / 8 : Nat) : Int) + ((Y q : Int) - Y p) - y ≤ g) → False) → G 144 [some (.ref 31), some (.int (nI p)), some (.int (nI q)), some (.int (nI g)), some (.int (nI y)), some (.int (nI x)), v6, v7, v8, v9] [] a I J Q := by
        intro v6 v7 v8 v9 hthis
        refine cl [10, 20, 89, 104, 144] 90 144 _ _ _ _ _ _ ?_
        have := ih (x + 1) y v6 v7 v8 v9 (by omega) hy (fun b1 b2 h1 h2 h3 h4 h5 => by
          by_cases e : b1 = 8 * y + x
          · subst e
            exact hthis b2 h1 h2 (by rw [show (8 * y + x) % 8 = x by omega] at h4; exact h4) (by rw [show (8 * y + x) / 8 = y by omega] at h5; exact h5)
          · exact hno b1 b2 h1 h2 (by omega) h4 h5) hK
        rw [← nI_1 x] at this
        exact this
      have hcell := hc_in (c := C p) hx hy
      refine cl [10, 20, 89, 104, 144] 90 20 _ _ _ _ _ _ ?_
      refine And.intro (fun h => absurd h (nI_ge (a := x) (b := 8) (by omega) (by decide))) (fun _ => And.intro hinp ?_)
      refine Exists.intro (S p, nI x, nI y, C p) (And.intro (show [Value.ref 31, .int (I 45 (nI p).toNatClampNeg), .int (nI x), .int (nI y)] = [Value.ref 31, .int (nI (S p)), .int (nI x), .int (nI y)] by rw [eSp]) (And.intro ⟨hS2, hr1⟩ ?_))
      refine bI_cases (hcB (C p) (nI x) (nI y)) (fun hb => ?_) (fun hb => ?_)
      · rw [hcell] at hb
        refine And.intro hinp (And.intro hinq (And.intro hinp (And.intro hinq ?_)))
        have eu : I 46 (nI p).toNatClampNeg + nI x - I 46 (nI q).toNatClampNeg = zI ((X p : Int) + x - X q) := by
          rw [ecp, ecq, hX1, hX1', nI_add, zI_nat, zI_nat]
          rw [zI_sub]
          rfl
        have ev : I 47 (nI p).toNatClampNeg + nI y - I 47 (nI q).toNatClampNeg = zI ((Y p : Int) + y - Y q) := by
          rw [ecp, ecq, hY1, hY1', nI_add, zI_nat, zI_nat]
          rw [zI_sub]
          rfl
        have ek : zI ((Y p : Int) + y - Y q) - nI g = zI ((Y p : Int) + y - Y q - g) := by rw [zI_nat]; exact (Int32.ofInt_sub _ _).symm
        have := l3 (2 * g + 1) ((Y p : Int) + y - Y q - g) x y ((X p : Int) + x - X q) ((Y p : Int) + y - Y q) v9 hx hy rfl rfl (by omega) (by omega) hb (fun b2 _ h2 h3 => by omega) (fun v6 v7 v8 v9 hno2 => g144 v6 v7 v8 v9 (fun b2 h1 h2 h3 h4 => hno2 b2 h2 (by omega) (by omega) (by omega) (by omega)))
        rw [← ek, ← eu, ← ev] at this
        exact this
      · rw [hcell] at hb
        exact g144 v6 v7 v8 v9 (fun b2 h1 => by rw [hb] at h1; cases h1)
  have l1 : ∀ d y (v5 v6 v7 v8 v9 : Option Value), d + y = 8 → (∀ b1 b2, (C p).testBit b1 = true → (C q).testBit b2 = true → b1 / 8 < y → (-(g : Int) ≤ (b2 % 8 : Nat) + ((X q : Int) - X p) - (b1 % 8 : Nat) ∧ ((b2 % 8 : Nat) : Int) + ((X q : Int) - X p) - (b1 % 8 : Nat) ≤ g) → (-(g : Int) ≤ (b2 / 8 : Nat) + ((Y q : Int) - Y p) - (b1 / 8 : Nat) ∧ ((b2 / 8 : Nat) : Int) + ((Y q : Int) - Y p) - (b1 / 8 : Nat) ≤ g) → False) → G 10 [some (.ref 31), some (.int (nI p)), some (.int (nI q)), some (.int (nI g)), some (.int (nI y)), v5, v6, v7, v8, v9] [] a I J Q := by
    intro d
    induction d with
    | zero =>
      intro y v5 v6 v7 v8 v9 hd hno
      obtain rfl : y = 8 := by omega
      refine cl [10, 20, 89, 104, 144] 90 10 _ _ _ _ _ _ ?_
      refine And.intro (fun _ => And.intro (Or.inr rfl) (hR _ _ _ _ ⟨rfl, rfl, rfl, true, rfl, ⟨fun _ => ?_, fun _ => rfl⟩⟩)) (fun h => absurd (by decide) h)
      rintro ⟨b1, b2, h1, h2, h3, h4⟩
      exact hno b1 b2 h1 h2 (by have := bit_lt hc1 h1; omega) h3 h4
    | succ d ih =>
      intro y v5 v6 v7 v8 v9 hd hno
      refine cl [10, 20, 89, 104, 144] 90 10 _ _ _ _ _ _ ?_
      refine And.intro (fun h => absurd h (nI_ge (a := y) (b := 8) (by omega) (by decide))) (fun _ => ?_)
      exact l2 8 0 y v6 v7 v8 v9 rfl (by omega) (fun b1 b2 h1 h2 h3 => hno b1 b2 h1 h2 (by omega)) (fun v5 v6 v7 v8 v9 hno2 => ih (y + 1) v5 v6 v7 v8 v9 (by omega) hno2)
  refine cl [10, 20, 89, 104, 144] 90 0 _ _ _ _ _ _ ?_
  refine And.intro (show vp_in 2 3 from vp_in_nI (n := 2) (by decide) (by decide)) ?_
  have := l1 8 0 none none none none none rfl (fun b1 b2 _ _ h => by omega)
  have e2 : I 37 ((2 : Int32)).toNatClampNeg = nI g := hI2
  rw [← e2] at this
  exact this
