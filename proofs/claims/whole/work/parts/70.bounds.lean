/-! REFERENCE: mayBe, findBounds -/
def mbP (B M f : Nat → Nat) (p st : Nat) : Prop := ∀ q, q < p → (f q = st → (M p).testBit q = true) ∧ ((B p).testBit q = true → f q < st) ∧ ((B q).testBit p = true → st < f q)
abbrev x_mb : Type := (Nat × Nat) × Nat × (Nat → Nat) × (Nat → Nat) × (Nat → Nat)
abbrev e_mb : x_mb → List Value := fun x => [.ref 31, .int (nI x.1.1), .int (nI x.1.2)]
theorem v_mb (n : Nat) (h : 3 ≤ n) (x : x_mb) : okv (e_mb x) ∧ (lvA (e_mb x)).length ≤ n := ⟨okv_ref (okv_int (okv_int okv_nil)), h⟩
def e_mayBe : ev := (3, 10, false, 0, 0, sn e_mb (fun x _ I _ _ => (x.1.1 < x.2.1 ∧ x.1.2 < 1000) ∧ lawR I x.2.2.1 x.2.1 ∧ mtR I x.2.2.2.1 x.2.1 ∧ ∀ q, q < x.1.1 → I 52 q = nI (x.2.2.2.2 q) ∧ x.2.2.2.2 q < 1000) (fun x _ I J Q v I' J' Q' => I' = I ∧ J' = J ∧ Q' = Q ∧ ∃ b, v = some (.int (bI b)) ∧ (b = true ↔ mbP x.2.2.1 x.2.2.2.1 x.2.2.2.2 x.1.1 x.1.2)))
theorem bit1_iff {v x : Nat} (hv : v < 2 ^ 31) (hx : x < 32) : ((nI v >>> (nI x &&& 31)) &&& 1 = 1 ↔ v.testBit x = true) ∧ ((nI v >>> (nI x &&& 31)) &&& 1 = 0 ↔ v.testBit x = false) := by
  rw [bit1 hv hx]
  cases v.testBit x with
  | true => exact ⟨⟨fun _ => rfl, fun _ => rfl⟩, ⟨fun h => absurd h (by decide), fun h => by cases h⟩⟩
  | false => exact ⟨⟨fun h => absurd h (by decide), fun h => by cases h⟩, ⟨fun _ => rfl, fun _ => rfl⟩⟩
set_option maxRecDepth 20000 in
theorem c_mayBe {l : Launch} : CX l cdX10_mayBe e_mayBe := by
  refine cm_sn RX10 edX10_mayBe [] true kX10_mayBe cwX10_mayBe okX10_mayBe trivial (by decide) rfl (v_mb _ (by decide)) ?_
  intro um zm G Rt ⟨⟨p, st⟩, m, B, M, f⟩ a I J Q cl hb hp hR
  obtain ⟨⟨hpm, hst⟩, hl, hM, hf⟩ := hp
  have hpm : p < m := hpm
  have hst : st < 1000 := hst
  have hl : lawR I B m := hl
  have hM : mtR I M m := hM
  have hf : ∀ q, q < p → I 52 q = nI (f q) ∧ f q < 1000 := hf
  have hR : ∀ v I' J' Q', (I' = I ∧ J' = J ∧ Q' = Q ∧ ∃ b, v = some (Value.int (bI b)) ∧ (b = true ↔ mbP B M f p st)) → Rt v a I' J' Q' := hR
  have hlt := lawR_lt hl
  obtain ⟨h19, hm, hB, hBm⟩ := hl
  have h2m : 2 ^ m ≤ 2 ^ 10 := Nat.pow_le_pow_right (by decide) hm
  have hMl : ∀ p, p < m → M p < 1024 := fun p hp => Nat.lt_of_lt_of_le (hM p hp).2 h2m
  have loop : ∀ d q (v4 v5 v6 : Option Value), d + q = p → (∀ r, r < q → (f r = st → (M p).testBit r = true) ∧ ((B p).testBit r = true → f r < st) ∧ ((B r).testBit p = true → st < f r)) → G 2 [some (.ref 31), some (.int (nI p)), some (.int (nI st)), some (.int (nI q)), v4, v5, v6] [] a I J Q := by
    intro d
    induction d with
    | zero =>
      intro q v4 v5 v6 hd h0
      obtain rfl : q = p := by omega
      refine cl [2, 35, 66, 97, 116] 80 2 _ _ _ _ _ _ ?_
      exact And.intro (fun _ => And.intro (Or.inr rfl) (hR _ _ _ _ ⟨rfl, rfl, rfl, true, rfl, ⟨fun _ => h0, fun _ => rfl⟩⟩)) (fun h => absurd (nI_le (Nat.le_refl _) (by omega)) h)
    | succ d ih =>
      intro q v4 v5 v6 hd h0
      have hq : q < p := by omega
      have ecp : (nI p).toNatClampNeg = p := nI_clamp (by omega)
      have ecq : (nI q).toNatClampNeg = q := nI_clamp (by omega)
      have hinp : vp_in (nI p) 10 := vp_in_nI (by omega) (by decide)
      have hinq : vp_in (nI q) 10 := vp_in_nI (by omega) (by decide)
      have hfq := hf q hq
      have efq : I 52 (nI q).toNatClampNeg = nI (f q) := by rw [ecq]; exact hfq.1
      have hbM := bit1_iff (v := M p) (x := q) (by have := hMl p hpm; omega) (by omega)
      have hbB := bit1_iff (v := B p) (x := q) (by have := hlt p (by omega); omega) (by omega)
      have hbB2 := bit1_iff (v := B q) (x := p) (by have := hlt q (by omega); omega) (by omega)
      rw [← (hM p hpm).1, ← ecp] at hbM
      rw [← hB p (by omega), ← ecp] at hbB
      rw [← hB q (by omega), ← ecq] at hbB2
      rw [ecp] at hbM hbB
      rw [ecq] at hbB2
      -- the three answers are there
      have g97 : ∀ lk lt er, (lk = true ↔ f q = st ∧ (M p).testBit q = false) → (lt = true ↔ (B p).testBit q = true ∧ st ≤ f q) → (er = true ↔ (B q).testBit p = true ∧ f q ≤ st) → G 97 [some (.ref 31), some (.int (nI p)), some (.int (nI st)), some (.int (nI q)), some (.int (bI lk)), some (.int (bI lt)), v6] [.int (bI er)] a I J Q := by
        intro lk lt er h1 h2 h3
        have hF : (lk = true ∨ lt = true ∨ er = true) → Rt (some (.int 0)) a I J Q := fun h => hR _ _ _ _ ⟨rfl, rfl, rfl, false, rfl, ⟨fun h => (by cases h), fun hmb => by
          have hthis := hmb q hq
          rcases h with h | h | h
          · have := h1.mp h
            rw [hthis.1 this.1] at this
            cases this.2
          · have := h2.mp h
            have := hthis.2.1 this.1
            omega
          · have := h3.mp h
            have := hthis.2.2 this.1
            omega⟩⟩
        refine cl [2, 35, 66, 97, 116] 80 97 _ _ _ _ _ _ ?_
        refine bI_cases lk (fun h => And.intro (Or.inl rfl) (hF (Or.inl h))) (fun q1 => bI_cases lt (fun h => And.intro (Or.inl rfl) (hF (Or.inr (Or.inl h)))) (fun q2 => bI_cases' er (fun h => And.intro (Or.inl rfl) (hF (Or.inr (Or.inr h)))) (fun q3 => ?_)))
        refine cl [2, 35, 66, 97] 80 116 _ _ _ _ _ _ ?_
        have := ih (q + 1) (some (.int (bI lk))) (some (.int (bI lt))) (some (.int (bI er))) (by omega) (fun r hr => by
          by_cases e : r = q
          · subst e
            refine ⟨fun h => ?_, fun h => ?_, fun h => ?_⟩
            · cases hq' : (M p).testBit r with
              | true => rfl
              | false => rw [h1.mpr ⟨h, hq'⟩] at q1; cases q1
            · rcases Nat.lt_or_ge (f r) st with c | c
              · exact c
              · rw [h2.mpr ⟨h, c⟩] at q2; cases q2
            · rcases Nat.lt_or_ge st (f r) with c | c
              · exact c
              · rw [h3.mpr ⟨h, c⟩] at q3; cases q3
          · exact h0 r (by omega))
        rw [← nI_1 q] at this
        exact this
      have g66 : ∀ lk lt (v5 : Option Value), (lk = true ↔ f q = st ∧ (M p).testBit q = false) → (lt = true ↔ (B p).testBit q = true ∧ st ≤ f q) → G 66 [some (.ref 31), some (.int (nI p)), some (.int (nI st)), some (.int (nI q)), some (.int (bI lk)), v5, v6] [.int (bI lt)] a I J Q := by
        intro lk lt v5 h1 h2
        refine cl [2, 35, 66, 97, 116] 80 66 _ _ _ _ _ _ ?_
        refine And.intro hinq (And.intro (fun (h : ¬ (I 49 (nI q).toNatClampNeg >>> (nI p &&& 31)) &&& 1 = 1) => ?_) (fun (h : (I 49 (nI q).toNatClampNeg >>> (nI p &&& 31)) &&& 1 = 1) => And.intro hinq (And.intro (fun (h3 : nI st < I 52 (nI q).toNatClampNeg) => ?_) (fun (h3 : ¬ nI st < I 52 (nI q).toNatClampNeg) => ?_))))
        · rw [ecq, hbB2.1] at h
          exact g97 lk lt false h1 h2 ⟨fun h => (by cases h), fun h' => absurd h'.1 h⟩
        · rw [efq, nI_ltI (by omega) (by omega)] at h3
          exact g97 lk lt false h1 h2 ⟨fun h => (by cases h), fun h' => by have := h'.2; omega⟩
        · rw [efq, nI_ltI (by omega) (by omega)] at h3
          rw [ecq, hbB2.1] at h
          exact g97 lk lt true h1 h2 ⟨fun _ => ⟨h, by omega⟩, fun _ => rfl⟩
      have g35 : ∀ lk (v4 v5 : Option Value), (lk = true ↔ f q = st ∧ (M p).testBit q = false) → G 35 [some (.ref 31), some (.int (nI p)), some (.int (nI st)), some (.int (nI q)), v4, v5, v6] [.int (bI lk)] a I J Q := by
        intro lk v4 v5 h1
        refine cl [2, 35, 66, 97, 116] 80 35 _ _ _ _ _ _ ?_
        refine And.intro hinp (And.intro (fun (h : ¬ (I 49 (nI p).toNatClampNeg >>> (nI q &&& 31)) &&& 1 = 1) => ?_) (fun (h : (I 49 (nI p).toNatClampNeg >>> (nI q &&& 31)) &&& 1 = 1) => And.intro hinq (And.intro (fun (h3 : I 52 (nI q).toNatClampNeg < nI st) => ?_) (fun (h3 : ¬ I 52 (nI q).toNatClampNeg < nI st) => ?_))))
        · rw [ecp, hbB.1] at h
          exact g66 lk false v5 h1 ⟨fun h => (by cases h), fun h' => absurd h'.1 h⟩
        · rw [efq, nI_ltI (by omega) (by omega)] at h3
          exact g66 lk false v5 h1 ⟨fun h => (by cases h), fun h' => by have := h'.2; omega⟩
        · rw [efq, nI_ltI (by omega) (by omega)] at h3
          rw [ecp, hbB.1] at h
          exact g66 lk true v5 h1 ⟨fun _ => ⟨h, by omega⟩, fun _ => rfl⟩
      refine cl [2, 35, 66, 97, 116] 80 2 _ _ _ _ _ _ ?_
      refine And.intro (fun h => absurd h (nI_ge hq (by omega))) (fun _ => And.intro hinq (And.intro (fun (h : ¬ I 52 (nI q).toNatClampNeg = nI st) => ?_) (fun (h : I 52 (nI q).toNatClampNeg = nI st) => And.intro hinp (And.intro (fun (h3 : ¬ (I 50 (nI p).toNatClampNeg >>> (nI q &&& 31)) &&& 1 = 0) => ?_) (fun (h3 : (I 50 (nI p).toNatClampNeg >>> (nI q &&& 31)) &&& 1 = 0) => ?_)))))
      · rw [efq, nI_eq (by omega) (by omega)] at h
        exact g35 false v4 v5 ⟨fun h => (by cases h), fun h' => absurd h'.1 h⟩
      · rw [ecp, hbM.2] at h3
        exact g35 false v4 v5 ⟨fun h => (by cases h), fun h' => absurd h'.2 h3⟩
      · rw [efq, nI_eq (by omega) (by omega)] at h
        rw [ecp, hbM.2] at h3
        exact g35 true v4 v5 ⟨fun _ => ⟨h, h3⟩, fun _ => rfl⟩
  refine cl [2, 35, 66, 97, 116] 80 0 _ _ _ _ _ _ ?_
  exact loop p 0 none none none (by omega) (fun r hr => by omega)
def valM (m : Nat) (B M : Nat → Nat) (K : Nat) (f : Nat → Nat) : Prop := (∀ p, p < m → f p < K) ∧ (∀ p q, p < m → q < m → (B p).testBit q = true → f q < f p) ∧ ∀ p q, p < m → q < m → f p = f q → (M p).testBit q = true
/-- soonest and latest hold what every plan has between them -/
def bdP (I : hI) (m : Nat) (B M : Nat → Nat) (K : Nat) : Prop := ∃ lo hi : Nat → Nat, (∀ p, p < m → I 53 p = nI (lo p) ∧ I 54 p = nI (hi p) ∧ hi p < K) ∧ ∀ f, valM m B M K f → ∀ p, p < m → lo p ≤ f p ∧ f p ≤ hi p
abbrev x_fbd : Type := Nat × (Nat → Nat) × (Nat → Nat) × Nat × (Nat → Nat)
abbrev e_fbd : x_fbd → List Value := fun _ => [.ref 31]
theorem v_fbd (n : Nat) (h : 1 ≤ n) (x : x_fbd) : okv (e_fbd x) ∧ (lvA (e_fbd x)).length ≤ n := ⟨okv_ref okv_nil, h⟩
def e_bounds : ev := (1, 10, false, 0, 0, sn e_fbd (fun x _ I _ _ => lawR I x.2.1 x.1 ∧ (I 31 30 = nI x.2.2.2.1 ∧ 1 ≤ x.2.2.2.1 ∧ x.2.2.2.1 ≤ 100) ∧ valM x.1 x.2.1 x.2.2.1 x.2.2.2.1 x.2.2.2.2) (fun x _ I J Q v I' J' Q' => v = none ∧ J' = J ∧ Q' = Q ∧ fr I I' [53, 54] ∧ bdP I' x.1 x.2.1 x.2.2.1 x.2.2.2.1))
set_option maxRecDepth 20000 in
theorem c_bounds {l : Launch} : CX l cdX10_findBounds e_bounds := by
  refine cm_sn RX10 edX10_findBounds [] false kX10_findBounds cwX10_findBounds okX10_findBounds trivial (by decide) rfl (v_fbd _ (by decide)) ?_
  intro um zm G Rt ⟨m, B, M, K, f0⟩ a I J Q cl hb hp hR
  obtain ⟨hl, ⟨hI30, hK1, hK2⟩, hv⟩ := hp
  have hl : lawR I B m := hl
  have hI30 : I 31 30 = nI K := hI30
  have hK1 : 1 ≤ K := hK1
  have hK2 : K ≤ 100 := hK2
  have hv : valM m B M K f0 := hv
  have hR : ∀ v I' J' Q', (v = none ∧ J' = J ∧ Q' = Q ∧ fr I I' [53, 54] ∧ bdP I' m B M K) → Rt v a I' J' Q' := hR
  have hlt := lawR_lt hl
  obtain ⟨h19, hm, hB, hBm⟩ := hl
  have e19 : ∀ {I' : hI}, fr I I' [53, 54] → I' 31 19 = nI m := fun hf => by rw [hf 31 (by decide)]; exact h19
  -- the loop over q
  have l4 : ∀ d q p r I', d + q = m → p < m → fr I I' [53, 54] → bdP I' m B M K → (∀ v3 I2, fr I I2 [53, 54] → bdP I2 m B M K → G 47 [some (.ref 31), some (.int (nI r)), some (.int (nI (p + 1))), v3] [] a I2 J Q) → G 57 [some (.ref 31), some (.int (nI r)), some (.int (nI p)), some (.int (nI q))] [] a I' J Q := by
    intro d
    induction d with
    | zero =>
      intro q p r I' hd hp hf hbd hK
      obtain rfl : q = m := by omega
      refine cl [2, 37, 47, 57, 118, 158, 159] 80 57 _ _ _ _ _ _ ?_
      refine And.intro (fun _ => ?_) (fun (h : ¬ I' 31 19 ≤ nI q) => absurd (by rw [e19 hf]; exact nI_le (Nat.le_refl _) (by omega)) h)
      have := hK (some (.int (nI q))) I' hf hbd
      rw [← nI_1 p] at this
      exact this
    | succ d ih =>
      intro q p r I' hd hp hf hbd hK
      have hq : q < m := by omega
      have ecp : (nI p).toNatClampNeg = p := nI_clamp (by omega)
      have ecq : (nI q).toNatClampNeg = q := nI_clamp (by omega)
      have hinp : vp_in (nI p) 10 := vp_in_nI (by omega) (by decide)
      have hinq : vp_in (nI q) 10 := vp_in_nI (by omega) (by decide)
      have hbB := bit1_iff (v := B p) (x := q) (by have := hlt p (by omega); omega) (by omega)
      have eB : I' 49 (nI p).toNatClampNeg = nI (B p) := by rw [ecp, hf 49 (by decide)]; exact hB p (by omega)
      have g159 : ∀ I2, fr I I2 [53, 54] → bdP I2 m B M K → G 159 [some (.ref 31), some (.int (nI r)), some (.int (nI p)), some (.int (nI q))] [] a I2 J Q := by
        intro I2 g1 g2
        refine cl [2, 37, 47, 57, 118, 158, 159] 80 159 _ _ _ _ _ _ ?_
        have := ih (q + 1) p r I2 (by omega) hp g1 g2 hK
        rw [← nI_1 q] at this
        exact this
      refine cl [2, 37, 47, 57, 118, 158, 159] 80 57 _ _ _ _ _ _ ?_
      refine And.intro (fun (h : I' 31 19 ≤ nI q) => absurd h (by rw [e19 hf]; exact nI_ge hq (by omega))) (fun _ => And.intro hinp (And.intro (fun (h : ¬ (I' 49 (nI p).toNatClampNeg >>> (nI q &&& 31)) &&& 1 = 1) => g159 I' hf hbd) (fun (h : (I' 49 (nI p).toNatClampNeg >>> (nI q &&& 31)) &&& 1 = 1) => ?_)))
      rw [eB, hbB.1] at h
      obtain ⟨lo, hi, hc, hall⟩ := hbd
      have hcp := hc p hp
      have hcq := hc q hq
      have h0 := hall f0 hv
      have hlop := h0 p hp
      have hloq := h0 q hq
      have hlaw : ∀ f, valM m B M K f → f q < f p := fun f hf' => hf'.2.1 p q hp hq h
      have hlaw0 := hlaw f0 hv
      have hne : p ≠ q := fun e => by rw [e] at hlaw0; omega
      -- the new latest
      have g158 : ∀ (I2 : hI) (lo2 : Nat → Nat) (v : Nat), fr I I2 [53, 54] → (∀ p, p < m → I2 53 p = nI (lo2 p) ∧ I2 54 p = nI (hi p) ∧ hi p < K) → (∀ f, valM m B M K f → ∀ p, p < m → lo2 p ≤ f p ∧ f p ≤ hi p) → v < K → (∀ f, valM m B M K f → f q ≤ v) → G 158 [some (.ref 31), some (.int (nI r)), some (.int (nI p)), some (.int (nI q))] [.int (nI v), .int (nI q), .ref 54] a I2 J Q := by
        intro I2 lo2 v g1 g2 g3 hvK g4
        refine cl [2, 37, 47, 57, 118, 158, 159] 80 158 _ _ _ _ _ _ ?_
        refine And.intro hinq ?_
        refine g159 (up2 I2 54 (nI q).toNatClampNeg (nI v)) (fr_up g1 (by decide)) ⟨lo2, fun z => if z = q then v else hi z, fun z hz => ?_, fun f hf' z hz => ?_⟩
        · show up2 I2 54 (nI q).toNatClampNeg (nI v) 53 z = nI (lo2 z) ∧ up2 I2 54 (nI q).toNatClampNeg (nI v) 54 z = nI (if z = q then v else hi z) ∧ (if z = q then v else hi z) < K
          rw [up2_ne (by decide), ecq]
          have := g2 z hz
          by_cases e : z = q
          · subst e; exact ⟨this.1, by rw [up2_at, if_pos rfl], by rw [if_pos rfl]; exact hvK⟩
          · exact ⟨this.1, by rw [up2_nej e, if_neg e]; exact this.2.1, by rw [if_neg e]; exact this.2.2⟩
        · have := g3 f hf' z hz
          refine ⟨this.1, ?_⟩
          show f z ≤ (if z = q then v else hi z)
          by_cases e : z = q
          · subst e; rw [if_pos rfl]; exact g4 f hf'
          · rw [if_neg e]; exact this.2
      -- the new soonest
      have g118 : ∀ v, v < K → (∀ f, valM m B M K f → v ≤ f p) → G 118 [some (.ref 31), some (.int (nI r)), some (.int (nI p)), some (.int (nI q))] [.int (nI v), .int (nI p), .ref 53] a I' J Q := by
        intro v hvK hvf
        have g2 : ∀ z, z < m → up2 I' 53 (nI p).toNatClampNeg (nI v) 53 z = nI (if z = p then v else lo z) ∧ up2 I' 53 (nI p).toNatClampNeg (nI v) 54 z = nI (hi z) ∧ hi z < K := fun z hz => by
          rw [ecp, up2_ne (k' := 54) (by decide)]
          have := hc z hz
          by_cases e : z = p
          · subst e; exact ⟨by rw [up2_at, if_pos rfl], this.2⟩
          · exact ⟨by rw [up2_nej e, if_neg e]; exact this.1, this.2⟩
        have g3 : ∀ f, valM m B M K f → ∀ z, z < m → (if z = p then v else lo z) ≤ f z ∧ f z ≤ hi z := fun f hf' z hz => by
          have := hall f hf' z hz
          refine ⟨?_, this.2⟩
          by_cases e : z = p
          · subst e; rw [if_pos rfl]; exact hvf f hf'
          · rw [if_neg e]; exact this.1
        have el : up2 I' 53 (nI p).toNatClampNeg (nI v) 54 (nI p).toNatClampNeg - 1 = nI (hi p - 1) := by
          rw [ecp, up2_ne (by decide), hcp.2.1, show (1 : Int32) = nI 1 from rfl, pk_sub (by omega)]
        have el2 : up2 I' 53 (nI p).toNatClampNeg (nI v) 54 (nI q).toNatClampNeg = nI (hi q) := by
          rw [ecq, up2_ne (by decide)]; exact hcq.2.1
        refine cl [2, 37, 47, 57, 118, 158, 159] 80 118 _ _ _ _ _ _ ?_
        refine And.intro hinp (And.intro hinp (And.intro hinq (And.intro (fun (h2 : up2 I' 53 (nI p).toNatClampNeg (nI v) 54 (nI q).toNatClampNeg ≤ up2 I' 53 (nI p).toNatClampNeg (nI v) 54 (nI p).toNatClampNeg - 1) => And.intro hinq ?_) (fun (h2 : ¬ up2 I' 53 (nI p).toNatClampNeg (nI v) 54 (nI q).toNatClampNeg ≤ up2 I' 53 (nI p).toNatClampNeg (nI v) 54 (nI p).toNatClampNeg - 1) => And.intro hinp ?_))))
        · have := g158 (up2 I' 53 (nI p).toNatClampNeg (nI v)) _ (hi q) (fr_up hf (by decide)) g2 g3 hcq.2.2 (fun f hf' => (hall f hf' q hq).2)
          rw [← el2] at this
          exact this
        · have := g158 (up2 I' 53 (nI p).toNatClampNeg (nI v)) _ (hi p - 1) (fr_up hf (by decide)) g2 g3 (by have := hcp.2.2; omega) (fun f hf' => by have := hlaw f hf'; have := (hall f hf' p hp).2; omega)
          rw [← el] at this
          exact this
      have es : I' 53 (nI q).toNatClampNeg + 1 = nI (lo q + 1) := by rw [ecq, hcq.1, nI_1]
      have es2 : I' 53 (nI p).toNatClampNeg = nI (lo p) := by rw [ecp]; exact hcp.1
      have hfp := hv.1 p hp
      refine And.intro hinq (And.intro hinp (And.intro (fun (h2 : I' 53 (nI q).toNatClampNeg + 1 ≤ I' 53 (nI p).toNatClampNeg) => And.intro hinp ?_) (fun (h2 : ¬ I' 53 (nI q).toNatClampNeg + 1 ≤ I' 53 (nI p).toNatClampNeg) => And.intro hinq ?_)))
      · have := g118 (lo p) (by omega) (fun f hf' => (hall f hf' p hp).1)
        rw [← es2] at this
        exact this
      · have := g118 (lo q + 1) (by omega) (fun f hf' => by have := hlaw f hf'; have := (hall f hf' q hq).1; omega)
        rw [← es] at this
        exact this
  have l3 : ∀ d p r (v3 : Option Value) I', d + p = m → fr I I' [53, 54] → bdP I' m B M K → (∀ v2 v3 I2, fr I I2 [53, 54] → bdP I2 m B M K → G 37 [some (.ref 31), some (.int (nI (r + 1))), v2, v3] [] a I2 J Q) → G 47 [some (.ref 31), some (.int (nI r)), some (.int (nI p)), v3] [] a I' J Q := by
    intro d
    induction d with
    | zero =>
      intro p r v3 I' hd hf hbd hK
      obtain rfl : p = m := by omega
      refine cl [2, 37, 47, 57, 118, 158, 159] 80 47 _ _ _ _ _ _ ?_
      refine And.intro (fun _ => ?_) (fun (h : ¬ I' 31 19 ≤ nI p) => absurd (by rw [e19 hf]; exact nI_le (Nat.le_refl _) (by omega)) h)
      have := hK (some (.int (nI p))) v3 I' hf hbd
      rw [← nI_1 r] at this
      exact this
    | succ d ih =>
      intro p r v3 I' hd hf hbd hK
      refine cl [2, 37, 47, 57, 118, 158, 159] 80 47 _ _ _ _ _ _ ?_
      refine And.intro (fun (h : I' 31 19 ≤ nI p) => absurd h (by rw [e19 hf]; exact nI_ge (by omega) (by omega))) (fun _ => ?_)
      exact l4 m 0 p r I' (by omega) (by omega) hf hbd (fun v3 I2 g1 g2 => ih (p + 1) r v3 I2 (by omega) g1 g2 hK)
  have l2 : ∀ d r (v2 v3 : Option Value) I', d + r = m → fr I I' [53, 54] → bdP I' m B M K → G 37 [some (.ref 31), some (.int (nI r)), v2, v3] [] a I' J Q := by
    intro d
    induction d with
    | zero =>
      intro r v2 v3 I' hd hf hbd
      obtain rfl : r = m := by omega
      refine cl [2, 37, 47, 57, 118, 158, 159] 80 37 _ _ _ _ _ _ ?_
      exact And.intro (fun _ => hR _ _ _ _ ⟨rfl, rfl, rfl, hf, hbd⟩) (fun (h : ¬ I' 31 19 ≤ nI r) => absurd (by rw [e19 hf]; exact nI_le (Nat.le_refl _) (by omega)) h)
    | succ d ih =>
      intro r v2 v3 I' hd hf hbd
      refine cl [2, 37, 47, 57, 118, 158, 159] 80 37 _ _ _ _ _ _ ?_
      refine And.intro (fun (h : I' 31 19 ≤ nI r) => absurd h (by rw [e19 hf]; exact nI_ge (by omega) (by omega))) (fun _ => ?_)
      exact l3 m 0 r v3 I' (by omega) hf hbd (fun v2 v3 I2 g1 g2 => ih (r + 1) v2 v3 I2 (by omega) g1 g2)
  have l1 : ∀ d p (v2 v3 : Option Value) I', d + p = m → fr I I' [53, 54] → (∀ z, z < p → I' 53 z = nI 0 ∧ I' 54 z = nI (K - 1)) → G 2 [some (.ref 31), some (.int (nI p)), v2, v3] [] a I' J Q := by
    intro d
    induction d with
    | zero =>
      intro p v2 v3 I' hd hf h0
      obtain rfl : p = m := by omega
      refine cl [2, 37, 47, 57, 118, 158, 159] 80 2 _ _ _ _ _ _ ?_
      refine And.intro (fun _ => ?_) (fun (h : ¬ I' 31 19 ≤ nI p) => absurd (by rw [e19 hf]; exact nI_le (Nat.le_refl _) (by omega)) h)
      refine l2 p 0 v2 v3 I' (by omega) hf ⟨fun _ => 0, fun _ => K - 1, fun z hz => ⟨(h0 z hz).1, (h0 z hz).2, (show K - 1 < K by omega)⟩, fun f hf' z hz => ⟨Nat.zero_le _, ?_⟩⟩
      have := hf'.1 z hz
      show f z ≤ K - 1
      omega
    | succ d ih =>
      intro p v2 v3 I' hd hf h0
      have ecp : (nI p).toNatClampNeg = p := nI_clamp (by omega)
      have hinp : vp_in (nI p) 10 := vp_in_nI (by omega) (by decide)
      have e30 : up2 I' 53 (nI p).toNatClampNeg 0 31 30 - 1 = nI (K - 1) := by
        rw [up2_ne (by decide), hf 31 (by decide), hI30, show (1 : Int32) = nI 1 from rfl, pk_sub hK1]
      refine cl [2, 37, 47, 57, 118, 158, 159] 80 2 _ _ _ _ _ _ ?_
      refine And.intro (fun (h : I' 31 19 ≤ nI p) => absurd h (by rw [e19 hf]; exact nI_ge (by omega) (by omega))) (fun _ => And.intro hinp (And.intro hinp ?_))
      have := ih (p + 1) v2 v3 (up2 (up2 I' 53 (nI p).toNatClampNeg 0) 54 (nI p).toNatClampNeg (up2 I' 53 (nI p).toNatClampNeg 0 31 30 - 1)) (by omega) (fr_up (fr_up hf (by decide)) (by decide)) (fun z hz => by
        rw [e30, ecp, up2_ne (k' := 53) (by decide)]
        by_cases e : z = p
        · subst e; exact ⟨by rw [up2_at]; rfl, by rw [up2_at]⟩
        · exact ⟨by rw [up2_nej e]; exact (h0 z (by omega)).1, by rw [up2_nej e, up2_ne (by decide)]; exact (h0 z (by omega)).2⟩)
      rw [← nI_1 p] at this
      exact this
  refine cl [2, 37, 47, 57, 118, 158, 159] 80 0 _ _ _ _ _ _ ?_
  exact l1 m 0 none none I (by omega) (fr_refl _ _) (fun z hz => by omega)
