/-! REFERENCE: findFewest -/
def feasM (B M : Nat → Nat) (left K : Nat) (f : Nat → Nat) : Prop := (∀ p, left.testBit p = true → f p < K) ∧ (∀ p q, left.testBit p = true → left.testBit q = true → (B p).testBit q = true → f q < f p) ∧ ∀ p q, left.testBit p = true → left.testBit q = true → f p = f q → (M p).testBit q = true
def fwP (B M : Nat → Nat) (left K : Nat) : Prop := (K = 100 ∨ ∃ f, feasM B M left K f) ∧ K ≤ 100 ∧ ∀ K' f, feasM B M left K' f → K ≤ K'
theorem minus_eq {left set : Nat} (h : set &&& left = set) (hl : left < 2 ^ 31) : nI left &&& (nI set ^^^ (-1)) = nI (left ^^^ set) := by
  rw [show (-1 : Int32) = nI (2 ^ 32 - 1) from rfl, nx_xor, fa_and]
  apply congrArg nI
  apply Nat.eq_of_testBit_eq
  intro i
  rw [Nat.testBit_and, Nat.testBit_xor, Nat.testBit_xor, Nat.testBit_two_pow_sub_one]
  have hs : set.testBit i = true → left.testBit i = true := fun hq => sub_bit h hq
  by_cases hi : i < 32
  · rw [decide_eq_true hi]
    cases hq : set.testBit i with
    | false => cases left.testBit i <;> rfl
    | true => rw [hs hq]; rfl
  · have hlf : left.testBit i = false := by
      cases hq : left.testBit i with
      | false => rfl
      | true => have := bit_lt hl hq; omega
    have hsf : set.testBit i = false := by
      cases hq : set.testBit i with
      | false => rfl
      | true => rw [hs hq] at hlf; cases hlf
    rw [hlf, hsf, decide_eq_false hi]
    rfl
theorem minus_bit {left set : Nat} (h : set &&& left = set) (p : Nat) : (left ^^^ set).testBit p = (left.testBit p && !set.testBit p) := by
  rw [Nat.testBit_xor]
  cases hq : set.testBit p with
  | false => cases left.testBit p <;> rfl
  | true => rw [sub_bit h hq]; rfl
theorem minus_lt {left set : Nat} (h : set &&& left = set) (h0 : set ≠ 0) : left ^^^ set < left := by
  have hs : sbs (left ^^^ set) left := fun p hp => by
    rw [minus_bit h, Bool.and_eq_true] at hp
    exact hp.1
  have hle := sbs_le hs
  have hne : left ^^^ set ≠ left := fun e => by
    obtain ⟨p, hp⟩ := ex_bit h0
    have := minus_bit h p
    rw [e, hp, sub_bit h hp] at this
    cases this
  omega
theorem fw_sound {B M : Nat → Nat} {m left set K : Nat} {f : Nat → Nat} (hl : left < 2 ^ m) (h : set &&& left = set) (ho : oneP B M m set left) (hf : feasM B M (left ^^^ set) K f) : feasM B M left (K + 1) (fun p => if set.testBit p = true then 0 else f p + 1) := by
  have hr : ∀ p, left.testBit p = true → set.testBit p = false → (left ^^^ set).testBit p = true := fun p h1 h2 => by rw [minus_bit h, h1, h2]; rfl
  refine ⟨fun p hp => ?_, fun p q hp hq hb => ?_, fun p q hp hq he => ?_⟩
  · show (if set.testBit p = true then 0 else f p + 1) < K + 1
    cases hs : set.testBit p with
    | true => simp
    | false =>
      have := hf.1 p (hr p hp hs)
      simp
      exact this
  · show (if set.testBit q = true then 0 else f q + 1) < (if set.testBit p = true then 0 else f p + 1)
    cases hs : set.testBit p with
    | true =>
      have h0 := (ho p (bit_lt hl hp) hs).2
      have := (and_zero_iff.mp h0) q hb
      rw [hq] at this
      cases this
    | false =>
      cases hs2 : set.testBit q with
      | true => simp
      | false =>
        have := hf.2.1 p q (hr p hp hs) (hr q hq hs2) hb
        simp
        exact this
  · replace he : (if set.testBit p = true then 0 else f p + 1) = (if set.testBit q = true then 0 else f q + 1) := he
    cases hs : set.testBit p with
    | true =>
      cases hs2 : set.testBit q with
      | true => exact (ho p (bit_lt hl hp) hs).1 q hs2
      | false => rw [hs, hs2] at he; simp at he
    | false =>
      cases hs2 : set.testBit q with
      | true => rw [hs, hs2] at he; simp at he
      | false =>
        rw [hs, hs2] at he
        simp at he
        exact hf.2.2 p q (hr p hp hs) (hr q hq hs2) he
theorem fw_compl {B M : Nat → Nat} {m left K : Nat} {f : Nat → Nat} (hl : left < 2 ^ m) (h0 : left ≠ 0) (hf : feasM B M left K f) : ∃ set f', set ≠ 0 ∧ set &&& left = set ∧ oneP B M m set left ∧ feasM B M (left ^^^ set) (K - 1) f' := by
  obtain ⟨p0, hp0⟩ := ex_bit h0
  obtain ⟨k, ⟨p1, hp1, e1⟩, hk⟩ := pk_least (fun k => ∃ p, left.testBit p = true ∧ f p = k) ⟨_, p0, hp0, rfl⟩
  have hmin : ∀ p, left.testBit p = true → k ≤ f p := fun p hp => by
    rcases Nat.lt_or_ge (f p) k with h | h
    · exact absurd ⟨p, hp, rfl⟩ (hk (f p) h)
    · exact h
  have hb : ∀ p, (mskN (fun p => left.testBit p && decide (f p = k)) m).testBit p = true ↔ left.testBit p = true ∧ f p = k := fun p => by
    rw [mskN_bit, Bool.and_eq_true, decide_eq_true_iff, Bool.and_eq_true, decide_eq_true_iff]
    exact ⟨fun h => h.2, fun h => ⟨bit_lt hl h.1, h⟩⟩
  generalize mskN (fun p => left.testBit p && decide (f p = k)) m = set at hb
  have hsub : set &&& left = set := sub_of (fun p hp => ((hb p).mp hp).1)
  have hr : ∀ p, (left ^^^ set).testBit p = true → left.testBit p = true ∧ k < f p := fun p hp => by
    rw [minus_bit hsub, Bool.and_eq_true, Bool.not_eq_true'] at hp
    refine ⟨hp.1, ?_⟩
    have h1 := hmin p hp.1
    have h2 : f p ≠ k := fun e => by
      rw [(hb p).mpr ⟨hp.1, e⟩] at hp
      cases hp.2
    omega
  refine ⟨set, fun p => f p - (k + 1), fun e => ?_, hsub, fun p _ hp => ⟨fun q hq => ?_, ?_⟩, fun p hp => ?_, fun p q hp hq hbb => ?_, fun p q hp hq he => ?_⟩
  · have := (hb p1).mpr ⟨hp1, e1⟩
    rw [e, Nat.zero_testBit] at this
    cases this
  · have h1 := (hb p).mp hp
    have h2 := (hb q).mp hq
    exact hf.2.2 p q h1.1 h2.1 (by omega)
  · rw [and_zero_iff]
    intro q hq
    cases hlq : left.testBit q with
    | false => rfl
    | true =>
      have h1 := (hb p).mp hp
      have := hf.2.1 p q h1.1 hlq hq
      have := hmin q hlq
      omega
  · have h1 := hr p hp
    have := hf.1 p h1.1
    show f p - (k + 1) < K - 1
    omega
  · have h1 := hr p hp
    have h2 := hr q hq
    have := hf.2.1 p q h1.1 h2.1 hbb
    show f q - (k + 1) < f p - (k + 1)
    omega
  · have h1 := hr p hp
    have h2 := hr q hq
    replace he : f p - (k + 1) = f q - (k + 1) := he
    exact hf.2.2 p q h1.1 h2.1 (by omega)
abbrev x_ff : Type := Nat × (Nat → Nat) × (Nat → Nat)
abbrev e_ff : x_ff → List Value := fun _ => [.ref 31]
theorem v_ff (n : Nat) (h : 1 ≤ n) (x : x_ff) : okv (e_ff x) ∧ (lvA (e_ff x)).length ≤ n := ⟨okv_ref okv_nil, h⟩
def e_fewest : ev := (1, 10, false, 0, 0, sn e_ff (fun x _ I _ _ => lawR I x.2.1 x.1 ∧ mtR I x.2.2 x.1) (fun x _ I J Q v I' J' Q' => v = none ∧ J' = J ∧ Q' = Q ∧ fr I I' [51] ∧ ∀ s, s < 2 ^ x.1 → ∃ K, I' 51 s = nI K ∧ fwP x.2.1 x.2.2 s K))
theorem lawR_fr {I I' : hI} {B : Nat → Nat} {m : Nat} {l : List Nat} (h : lawR I B m) (hf : fr I I' l) (h1 : 31 ∉ l) (h2 : 49 ∉ l) : lawR I' B m := ⟨by rw [hf 31 h1]; exact h.1, h.2.1, fun p hp => by rw [hf 49 h2]; exact h.2.2.1 p hp, h.2.2.2⟩
theorem mtR_fr {I I' : hI} {M : Nat → Nat} {m : Nat} {l : List Nat} (h : mtR I M m) (hf : fr I I' l) (h1 : 50 ∉ l) : mtR I' M m := fun p hp => by rw [hf 50 h1]; exact h p hp
set_option maxRecDepth 20000 in
theorem c_fewest {l : Launch} : CX l cdX10_findFewest e_fewest := by
  refine cm_sn RX10 edX10_findFewest [e_oneS] false kX10_findFewest cwX10_findFewest okX10_findFewest ⟨⟨_, rfl, c_oneS⟩, trivial⟩ (by decide) rfl (v_ff _ (by decide)) ?_
  intro um zm G Rt ⟨m, B, M⟩ a I J Q cl hb hp hR
  obtain ⟨hl, hM⟩ := hp
  have hl : lawR I B m := hl
  have hM : mtR I M m := hM
  have hR : ∀ v I' J' Q', (v = none ∧ J' = J ∧ Q' = Q ∧ fr I I' [51] ∧ ∀ s, s < 2 ^ m → ∃ K, I' 51 s = nI K ∧ fwP B M s K) → Rt v a I' J' Q' := hR
  have hm := hl.2.1
  have h2m : 2 ^ m ≤ 2 ^ 10 := Nat.pow_le_pow_right (by decide) hm
  have e1m : ∀ I' : hI, I' 31 = I 31 → (1 : Int32) <<< (I' 31 19 &&& 31) = nI (2 ^ m) := fun I' h => by
    rw [h, hl.1, show (1 : Int32) = nI 1 from rfl, shlN (by omega) (by omega), Nat.one_mul]
  -- the subsets of left, from set down
  have l2 : ∀ d set left Kc I', set ≤ d → left < 2 ^ m → left ≠ 0 → set &&& left = set → fr I I' [51] → (∀ s, s < left → ∃ K, I' 51 s = nI K ∧ fwP B M s K) → I' 51 left = nI Kc → Kc ≤ 100 → (Kc = 100 ∨ ∃ f, feasM B M left Kc f) → (∀ j, j &&& left = j → j ≠ 0 → set < j → oneP B M m j left → ∀ K, I' 51 (left ^^^ j) = nI K → K ≤ 100 → Kc ≤ K + 1) → (∀ v2 I2, fr I I2 [51] → (∀ s, s < left + 1 → ∃ K, I2 51 s = nI K ∧ fwP B M s K) → G 9 [some (.ref 31), some (.int (nI (left + 1))), v2] [] a I2 J Q) → G 29 [some (.ref 31), some (.int (nI left)), some (.int (nI set))] [] a I' J Q := by
    intro d
    induction d with
    | zero =>
      intro set left Kc I' hd hlf h0 hsub hf htab hcur hK1 hK2 hK3 hK
      obtain rfl : set = 0 := by omega
      refine cl [9, 29, 81] 80 29 _ _ _ _ _ _ ?_
      refine And.intro (fun _ => ?_) (fun h => absurd (by decide) h)
      have := hK (some (.int (nI 0))) I' hf (fun s hs => ?_)
      · rw [← nI_1 left] at this
        exact this
      · by_cases e : s = left
        · subst e
          refine ⟨Kc, hcur, hK2, hK1, fun K' f hf' => ?_⟩
          obtain ⟨set, f', g1, g2, g3, g4⟩ := fw_compl hlf h0 hf'
          obtain ⟨K, q1, q2, q3, q4⟩ := htab (s ^^^ set) (minus_lt g2 g1)
          have h5 := hK3 set g2 g1 (by omega) g3 K q1 q3
          have h6 := q4 _ _ g4
          have hpos : 1 ≤ K' := by
            obtain ⟨p, hp⟩ := ex_bit h0
            have := hf'.1 p hp
            omega
          omega
        · exact htab s (by omega)
    | succ d ih =>
      intro set left Kc I' hd hlf h0 hsub hf htab hcur hK1 hK2 hK3 hK
      by_cases hz : set = 0
      · exact ih set left Kc I' (by omega) hlf h0 hsub hf htab hcur hK1 hK2 hK3 hK
      · have hsl : set < 2 ^ m := Nat.lt_of_le_of_lt (by rw [← hsub]; exact Nat.and_le_right) hlf
        have emn := minus_eq hsub (by omega)
        have hml := minus_lt hsub hz
        obtain ⟨K, q1, q2, q3, q4⟩ := htab (left ^^^ set) hml
        have hin : vp_in (nI left &&& (nI set ^^^ (-1))) 1024 := by rw [emn]; exact vp_in_nI (by omega) (by decide)
        have hinl : vp_in (nI left) 1024 := vp_in_nI (by omega) (by decide)
        have ev : I' 51 (nI left &&& (nI set ^^^ (-1))).toNatClampNeg = nI K := by rw [emn, nI_clamp (by omega)]; exact q1
        have ecl : (nI left).toNatClampNeg = left := nI_clamp (by omega)
        -- the next subset
        have g81 : ∀ Kc2 I2, fr I I2 [51] → (∀ s, s < left → I2 51 s = I' 51 s) → I2 51 left = nI Kc2 → Kc2 ≤ Kc → (Kc2 = 100 ∨ ∃ f, feasM B M left Kc2 f) → (oneP B M m set left → Kc2 ≤ K + 1) → G 81 [some (.ref 31), some (.int (nI left)), some (.int (nI set))] [] a I2 J Q := by
          intro Kc2 I2 r1 r2 r3 r4 r5 r6
          refine cl [9, 29, 81] 80 81 _ _ _ _ _ _ ?_
          have hle : (set - 1) &&& left ≤ set - 1 := Nat.and_le_left
          have := ih ((set - 1) &&& left) left Kc2 I2 (by omega) hlf h0 (and_and _ _) r1 (fun s hs => by rw [r2 s hs]; exact htab s hs) r3 (by omega) r5 (fun j j1 j2 j3 j4 K2 k1 k2 => ?_) hK
          · rw [← fa_and, ← pk_sub (show 1 ≤ set by omega)] at this
            exact this
          · rw [r2 _ (minus_lt j1 j2)] at k1
            by_cases e : j = set
            · subst e
              have hKK : K2 = K := by
                rw [q1, nI_eq (by omega) (by omega)] at k1
                exact k1.symm
              rw [hKK]
              exact r6 j4
            · rcases Nat.lt_or_ge j set with hlt | hge
              · have := sub_next left set j hsub j1 hlt
                omega
              · have := hK3 j j1 j2 (by omega) j4 K2 k1 k2
                omega
        refine cl [9, 29, 81] 80 29 _ _ _ _ _ _ ?_
        refine And.intro (fun (h : nI set ≤ 0) => absurd h (nI_nle (by omega) (by omega))) (fun _ => And.intro hin (And.intro hinl (And.intro (fun (h : I' 51 (nI left).toNatClampNeg ≤ I' 51 (nI left &&& (nI set ^^^ (-1))).toNatClampNeg + 1) => ?_) (fun (h : ¬ I' 51 (nI left).toNatClampNeg ≤ I' 51 (nI left &&& (nI set ^^^ (-1))).toNatClampNeg + 1) => ?_))))
        · rw [ecl, ev, hcur, nI_1, nI_leI (by omega) (by omega)] at h
          exact g81 Kc I' hf (fun _ _ => rfl) hcur (Nat.le_refl _) hK2 (fun _ => h)
        · rw [ecl, ev, hcur, nI_1, nI_leI (by omega) (by omega)] at h
          refine Exists.intro ((set, left), m, B, M) (And.intro rfl (And.intro ⟨⟨hsl, hlf⟩, lawR_fr hl hf (by decide) (by decide), mtR_fr hM hf (by decide)⟩ ?_))
          rintro v I2 J2 Q2 ⟨rfl, rfl, rfl, b, rfl, hbo⟩
          have hbo : b = true ↔ oneP B M m set left := hbo
          refine bI_cases' b (fun hbt => ?_) (fun hbf => ?_)
          · have ho := hbo.mp hbt
            refine And.intro hin (And.intro hinl ?_)
            have hfe : ∃ f, feasM B M left (K + 1) f := by
              rcases q2 with e | ⟨f, hf'⟩
              · omega
              · exact ⟨_, fw_sound hlf hsub ho hf'⟩
            have := g81 (K + 1) (up2 I2 51 (nI left).toNatClampNeg (I2 51 (nI left &&& (nI set ^^^ (-1))).toNatClampNeg + 1)) (fr_up hf (by decide)) (fun s hs => by rw [ecl, up2_nej (by omega)]) (by rw [ecl, up2_at, ev, nI_1]) (by omega) (Or.inr hfe) (fun _ => Nat.le_refl _)
            exact this
          · exact g81 Kc I2 hf (fun _ _ => rfl) hcur (Nat.le_refl _) hK2 (fun ho => by rw [hbo.mpr ho] at hbf; cases hbf)
  have l1 : ∀ d left (v2 : Option Value) I', d + left = 2 ^ m → 1 ≤ left → fr I I' [51] → (∀ s, s < left → ∃ K, I' 51 s = nI K ∧ fwP B M s K) → G 9 [some (.ref 31), some (.int (nI left)), v2] [] a I' J Q := by
    intro d
    induction d with
    | zero =>
      intro left v2 I' hd h1 hf htab
      obtain rfl : left = 2 ^ m := by omega
      refine cl [9, 29, 81] 80 9 _ _ _ _ _ _ ?_
      exact And.intro (fun _ => hR _ _ _ _ ⟨rfl, rfl, rfl, hf, htab⟩) (fun (h : ¬ (1 : Int32) <<< (I' 31 19 &&& 31) ≤ nI (2 ^ m)) => absurd (by rw [e1m I' (hf 31 (by decide))]; exact nI_le (Nat.le_refl _) (by omega)) h)
    | succ d ih =>
      intro left v2 I' hd h1 hf htab
      have ecl : (nI left).toNatClampNeg = left := nI_clamp (by omega)
      refine cl [9, 29, 81] 80 9 _ _ _ _ _ _ ?_
      refine And.intro (fun (h : (1 : Int32) <<< (I' 31 19 &&& 31) ≤ nI left) => absurd h (by rw [e1m I' (hf 31 (by decide))]; exact nI_ge (by omega) (by omega))) (fun _ => And.intro (show vp_in (nI left) 1024 from vp_in_nI (by omega) (by decide)) ?_)
      exact l2 left left left 100 (up2 I' 51 (nI left).toNatClampNeg 100) (Nat.le_refl _) (by omega) (by omega) (Nat.and_self _) (fr_up hf (by decide)) (fun s hs => by rw [ecl, up2_nej (by omega)]; exact htab s hs) (by rw [ecl, up2_at]; rfl) (Nat.le_refl _) (Or.inl rfl) (fun j j1 _ j3 => by
        have : j ≤ left := by rw [← j1]; exact Nat.and_le_right
        omega) (fun v2 I2 g1 g2 => ih (left + 1) v2 I2 (by omega) (by omega) g1 g2)
  refine cl [9, 29, 81] 80 0 _ _ _ _ _ _ ?_
  refine And.intro (show vp_in 0 1024 from vp_in_nI (n := 0) (by decide) (by decide)) ?_
  have h2p := Nat.two_pow_pos m
  have := l1 (2 ^ m - 1) 1 none (up2 I 51 0 0) (by omega) (Nat.le_refl _) (fr_up (fr_refl _ _) (by decide)) (fun s hs => by
    obtain rfl : s = 0 := by omega
    refine ⟨0, up2_at, Or.inr ⟨fun _ => 0, fun p hp => ?_, fun p q hp => ?_, fun p q hp => ?_⟩, by decide, fun K' f _ => Nat.zero_le _⟩
    · rw [Nat.zero_testBit] at hp; cases hp
    · rw [Nat.zero_testBit] at hp; cases hp
    · rw [Nat.zero_testBit] at hp; cases hp)
  exact this
