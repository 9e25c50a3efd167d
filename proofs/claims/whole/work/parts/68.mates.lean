/-! REFERENCE: areTogether, findMates, isOneStation -/
def tgP (B C X Y : Nat → Nat) (g p q : Nat) : Prop := p = q ∨ (mustN B q p = false ∧ mustN B p q = false ∧ wal C X Y g p q)
abbrev x_at : Type := (Nat × Nat) × Nat × Nat × (Nat → Nat) × (Nat → Nat) × (Nat → Nat) × (Nat → Nat) × (Nat → Nat)
abbrev e_at : x_at → List Value := fun x => [.ref 31, .int (nI x.1.1), .int (nI x.1.2)]
theorem v_at (n : Nat) (h : 3 ≤ n) (x : x_at) : okv (e_at x) ∧ (lvA (e_at x)).length ≤ n := ⟨okv_ref (okv_int (okv_int okv_nil)), h⟩
/-- what the plan is made of: laws, the wall, punches -/
def plR (I : hI) (m g : Nat) (B S X Y C : Nat → Nat) : Prop := lawR I B m ∧ (I 37 2 = nI g ∧ g ≤ 4) ∧ rpn I m S X Y C
def e_tog : ev := (3, 10, false, 0, 0, sn e_at (fun x _ I _ _ => (x.1.1 < x.2.1 ∧ x.1.2 < x.2.1) ∧ plR I x.2.1 x.2.2.1 x.2.2.2.1 x.2.2.2.2.1 x.2.2.2.2.2.1 x.2.2.2.2.2.2.1 x.2.2.2.2.2.2.2) (fun x _ I J Q v I' J' Q' => I' = I ∧ J' = J ∧ Q' = Q ∧ ∃ b, v = some (.int (bI b)) ∧ (b = true ↔ tgP x.2.2.2.1 x.2.2.2.2.2.2.2 x.2.2.2.2.2.1 x.2.2.2.2.2.2.1 x.2.2.1 x.1.1 x.1.2)))
set_option maxRecDepth 20000 in
theorem c_tog {l : Launch} : CX l cdX10_areTogether e_tog := by
  refine cm_sn RX10 edX10_areTogether [e_ahead, e_walled] true kX10_areTogether cwX10_areTogether okX10_areTogether ⟨⟨_, rfl, c_ahead⟩, ⟨_, rfl, c_walled⟩, trivial⟩ (by decide) rfl (v_at _ (by decide)) ?_
  intro um zm G Rt ⟨⟨p, q⟩, m, g, B, S, X, Y, C⟩ a I J Q cl hb hp hR
  obtain ⟨⟨hp1, hq1⟩, hl, hg, hpn⟩ := hp
  have hp1 : p < m := hp1
  have hq1 : q < m := hq1
  have hl : lawR I B m := hl
  have hg : I 37 2 = nI g ∧ g ≤ 4 := hg
  have hpn : rpn I m S X Y C := hpn
  have hm := hl.2.1
  have hlt := lawR_lt hl
  have hR : ∀ v I' J' Q', (I' = I ∧ J' = J ∧ Q' = Q ∧ ∃ b, v = some (Value.int (bI b)) ∧ (b = true ↔ tgP B C X Y g p q)) → Rt v a I' J' Q' := hR
  have hT : tgP B C X Y g p q → Rt (some (.int 1)) a I J Q := fun h => hR _ _ _ _ ⟨rfl, rfl, rfl, true, rfl, ⟨fun _ => h, fun _ => rfl⟩⟩
  have hF : ¬ tgP B C X Y g p q → Rt (some (.int 0)) a I J Q := fun h => hR _ _ _ _ ⟨rfl, rfl, rfl, false, rfl, ⟨fun h => (by cases h), fun h' => absurd h' h⟩⟩
  have hb1 : ∀ x y, x < m → y < m → (nI (mlr B (B x) 9) >>> (nI y &&& 31)) &&& 1 = nI (if mustN B y x = true then 1 else 0) := fun x y hx hy => bit1 (by have := mlr_lt hlt (hlt x (by omega)) 9; omega) (by omega)
  refine cl [] 60 0 _ _ _ _ _ _ ?_
  refine And.intro (fun (h : nI p = nI q) => ?_) (fun (h : ¬ nI p = nI q) => ?_)
  · rw [nI_eq (by omega) (by omega)] at h
    exact And.intro (Or.inr rfl) (hT (Or.inl h))
  · rw [nI_eq (by omega) (by omega)] at h
    refine Exists.intro (p, m, B) (And.intro rfl (And.intro ⟨hl, hp1⟩ ?_))
    refine And.intro (fun (h1 : ¬ (nI (mlr B (B p) 9) >>> (nI q &&& 31)) &&& 1 = 0) => And.intro (Or.inl rfl) (hF ?_)) (fun (h1 : (nI (mlr B (B p) 9) >>> (nI q &&& 31)) &&& 1 = 0) => ?_)
    · rintro (e | ⟨e, _⟩)
      · exact h e
      · rw [hb1 p q hp1 hq1, e] at h1
        exact h1 rfl
    · have m1 : mustN B q p = false := by
        cases hq : mustN B q p with
        | false => rfl
        | true => rw [hb1 p q hp1 hq1, hq] at h1; exact absurd h1 (by decide)
      refine Exists.intro (q, m, B) (And.intro rfl (And.intro ⟨hl, hq1⟩ ?_))
      refine And.intro (fun (h2 : ¬ (nI (mlr B (B q) 9) >>> (nI p &&& 31)) &&& 1 = 0) => And.intro (Or.inl rfl) (hF ?_)) (fun (h2 : (nI (mlr B (B q) 9) >>> (nI p &&& 31)) &&& 1 = 0) => ?_)
      · rintro (e | ⟨_, e, _⟩)
        · exact h e
        · rw [hb1 q p hq1 hp1, e] at h2
          exact h2 rfl
      · have m2 : mustN B p q = false := by
          cases hq : mustN B p q with
          | false => rfl
          | true => rw [hb1 q p hq1 hp1, hq] at h2; exact absurd h2 (by decide)
        refine Exists.intro ((p, q), m, g, S, X, Y, C) (And.intro rfl (And.intro ⟨⟨hp1, hq1⟩, hm, hg, hpn⟩ ?_))
        rintro v I2 J2 Q2 ⟨rfl, rfl, rfl, b, rfl, hbw⟩
        have hbw : b = true ↔ wal C X Y g p q := hbw
        refine bI_cases' b (fun hbt => And.intro (Or.inr rfl) (hT (Or.inr ⟨m1, m2, hbw.mp hbt⟩))) (fun hbf => And.intro (Or.inl rfl) (hF ?_))
        rintro (e | ⟨_, _, e⟩)
        · exact h e
        · rw [hbw.mpr e] at hbf
          cases hbf
/-- the mates, as masks -/
def mtP (M : Nat → Nat) (m : Nat) (T : Nat → Nat → Prop) : Prop := ∀ p, p < m → M p < 2 ^ m ∧ ∀ q, (M p).testBit q = true ↔ (q < m ∧ T p q)
abbrev x_fm : Type := Nat × Nat × (Nat → Nat) × (Nat → Nat) × (Nat → Nat) × (Nat → Nat) × (Nat → Nat)
abbrev e_fm : x_fm → List Value := fun _ => [.ref 31]
theorem v_fm (n : Nat) (h : 1 ≤ n) (x : x_fm) : okv (e_fm x) ∧ (lvA (e_fm x)).length ≤ n := ⟨okv_ref okv_nil, h⟩
def e_mates : ev := (1, 10, false, 0, 0, sn e_fm (fun x _ I _ _ => plR I x.1 x.2.1 x.2.2.1 x.2.2.2.1 x.2.2.2.2.1 x.2.2.2.2.2.1 x.2.2.2.2.2.2) (fun x _ I J Q v I' J' Q' => v = none ∧ J' = J ∧ Q' = Q ∧ fr I I' [50] ∧ ∃ M, (∀ p, p < x.1 → I' 50 p = nI (M p)) ∧ mtP M x.1 (tgP x.2.2.1 x.2.2.2.2.2.2 x.2.2.2.2.1 x.2.2.2.2.2.1 x.2.1)))
theorem plR_of {I I' : hI} {m g : Nat} {B S X Y C : Nat → Nat} (h : plR I m g B S X Y C) (h31 : I' 31 19 = I 31 19) (hk : ∀ k, k ∈ [32, 37, 45, 46, 47, 49] → I' k = I k) : plR I' m g B S X Y C := by
  obtain ⟨⟨h1, h2, h3, h4⟩, ⟨h5, h6⟩, h7⟩ := h
  refine ⟨⟨by rw [h31]; exact h1, h2, fun p hp => by rw [hk 49 (by decide)]; exact h3 p hp, h4⟩, ⟨by rw [hk 37 (by decide)]; exact h5, h6⟩, fun p hp => ?_⟩
  obtain ⟨⟨a1, a2⟩, ⟨a3, a4⟩, ⟨a5, a6⟩, a7, a8⟩ := h7 p hp
  exact ⟨⟨by rw [hk 45 (by decide)]; exact a1, a2⟩, ⟨fun y hy => by rw [hk 32 (by decide)]; exact a3 y hy, a4⟩, ⟨by rw [hk 46 (by decide)]; exact a5, a6⟩, by rw [hk 47 (by decide)]; exact a7, a8⟩
theorem plR_fr {I I' : hI} {m g : Nat} {B S X Y C : Nat → Nat} {l : List Nat} (h : plR I m g B S X Y C) (hf : fr I I' l) (hl : ∀ k, k ∈ [31, 32, 37, 45, 46, 47, 49] → k ∉ l) : plR I' m g B S X Y C := plR_of h (by rw [hf 31 (hl 31 (by decide))]) (fun k hk => hf k (hl k (List.mem_cons_of_mem _ hk)))
set_option maxRecDepth 20000 in
theorem c_mates {l : Launch} : CX l cdX10_findMates e_mates := by
  refine cm_sn RX10 edX10_findMates [e_tog] false kX10_findMates cwX10_findMates okX10_findMates ⟨⟨_, rfl, c_tog⟩, trivial⟩ (by decide) rfl (v_fm _ (by decide)) ?_
  intro um zm G Rt ⟨m, g, B, S, X, Y, C⟩ a I J Q cl hb hp hR
  have hpl : plR I m g B S X Y C := hp
  have hR : ∀ v I' J' Q', (v = none ∧ J' = J ∧ Q' = Q ∧ fr I I' [50] ∧ ∃ M, (∀ p, p < m → I' 50 p = nI (M p)) ∧ mtP M m (tgP B C X Y g)) → Rt v a I' J' Q' := hR
  have h19 := hpl.1.1
  have hm := hpl.1.2.1
  have h2m : 2 ^ m ≤ 2 ^ 10 := Nat.pow_le_pow_right (by decide) hm
  have l2 : ∀ d q p x I', d + q = m → p < m → x < 2 ^ m → (∀ r, x.testBit r = true ↔ (r < q ∧ tgP B C X Y g p r)) → fr I I' [50] → I' 50 p = nI x → (∀ x2 v2 I2, x2 < 2 ^ m → (∀ r, x2.testBit r = true ↔ (r < m ∧ tgP B C X Y g p r)) → fr I I2 [50] → I2 50 p = nI x2 → (∀ r, r ≠ p → I2 50 r = I' 50 r) → G 2 [some (.ref 31), some (.int (nI (p + 1))), v2] [] a I2 J Q) → G 19 [some (.ref 31), some (.int (nI p)), some (.int (nI q))] [] a I' J Q := by
    intro d
    induction d with
    | zero =>
      intro q p x I' hd hp hx hbit hf hI hK
      obtain rfl : q = m := by omega
      refine cl [2, 19, 50] 60 19 _ _ _ _ _ _ ?_
      refine And.intro (fun _ => ?_) (fun (h : ¬ I' 31 19 ≤ nI q) => absurd (by rw [hf 31 (by decide), h19]; exact nI_le (Nat.le_refl _) (by omega)) h)
      have := hK x (some (.int (nI q))) I' hx hbit hf hI (fun _ _ => rfl)
      rw [← nI_1 p] at this
      exact this
    | succ d ih =>
      intro q p x I' hd hp hx hbit hf hI hK
      have hq : q < m := by omega
      have ecp : (nI p).toNatClampNeg = p := nI_clamp (by omega)
      have hin : vp_in (nI p) 10 := vp_in_nI (by omega) (by decide)
      have h2q : (2 : Nat) ^ q < 2 ^ m := Nat.pow_lt_pow_right (by decide) hq
      -- the store, whatever comes
      have g50 : ∀ y, y < 2 ^ m → (∀ r, y.testBit r = true ↔ (r = q ∧ tgP B C X Y g p r)) → G 50 [some (.ref 31), some (.int (nI p)), some (.int (nI q))] [.int (nI y), .int (I' 50 (nI p).toNatClampNeg), .int (nI p), .ref 50] a I' J Q := by
        intro y hy hyb
        have e1 : I' 50 (nI p).toNatClampNeg ||| nI y = nI (x ||| y) := by rw [ecp, hI, fa_or]
        refine cl [2, 19, 50] 60 50 _ _ _ _ _ _ ?_
        refine And.intro hin ?_
        have := ih (q + 1) p (x ||| y) (up2 I' 50 (nI p).toNatClampNeg (I' 50 (nI p).toNatClampNeg ||| nI y)) (by omega) hp (or_bnd hx hy) (fun r => ?_) (fr_up hf (by decide)) (by rw [e1, ecp, up2_at]) (fun x2 v2 I2 h1 h2 h3 h4 h5 => hK x2 v2 I2 h1 h2 h3 h4 (fun r hr => by rw [h5 r hr, ecp, up2_nej hr]))
        · rw [← nI_1 q] at this
          exact this
        · rw [Nat.testBit_or, Bool.or_eq_true, hbit, hyb]
          constructor
          · rintro (⟨h1, h2⟩ | ⟨rfl, h2⟩)
            · exact ⟨by omega, h2⟩
            · exact ⟨by omega, h2⟩
          · rintro ⟨h1, h2⟩
            by_cases e : r = q
            · exact Or.inr ⟨e, h2⟩
            · exact Or.inl ⟨by omega, h2⟩
      refine cl [2, 19, 50] 60 19 _ _ _ _ _ _ ?_
      refine And.intro (fun (h : I' 31 19 ≤ nI q) => absurd h (by rw [hf 31 (by decide), h19]; exact nI_ge hq (by omega))) (fun _ => And.intro hin ?_)
      refine Exists.intro ((p, q), m, g, B, S, X, Y, C) (And.intro rfl (And.intro ⟨⟨hp, hq⟩, plR_fr hpl hf (by decide)⟩ ?_))
      rintro v I2 J2 Q2 ⟨rfl, rfl, rfl, b, rfl, hbw⟩
      have hbw : b = true ↔ tgP B C X Y g p q := hbw
      refine bI_cases' b (fun hbt => ?_) (fun hbf => ?_)
      · have := g50 (2 ^ q) h2q (fun r => by
          rw [Nat.testBit_two_pow, decide_eq_true_iff]
          constructor
          · rintro rfl; exact ⟨rfl, hbw.mp hbt⟩
          · rintro ⟨rfl, _⟩; rfl)
        rw [← Nat.one_mul (2 ^ q), ← shlN (v := 1) (i := q) (by omega) (by omega)] at this
        exact this
      · exact g50 0 (Nat.two_pow_pos m) (fun r => by
          rw [Nat.zero_testBit]
          constructor
          · intro h; cases h
          · rintro ⟨rfl, h⟩
            rw [hbw.mpr h] at hbf
            cases hbf)
  have l1 : ∀ d p (v2 : Option Value) I' (M : Nat → Nat), d + p = m → fr I I' [50] → (∀ r, r < p → I' 50 r = nI (M r)) → (∀ r, r < p → M r < 2 ^ m ∧ ∀ q, (M r).testBit q = true ↔ (q < m ∧ tgP B C X Y g r q)) → G 2 [some (.ref 31), some (.int (nI p)), v2] [] a I' J Q := by
    intro d
    induction d with
    | zero =>
      intro p v2 I' M hd hf h1 h2
      obtain rfl : p = m := by omega
      refine cl [2, 19, 50] 60 2 _ _ _ _ _ _ ?_
      exact And.intro (fun _ => hR _ _ _ _ ⟨rfl, rfl, rfl, hf, M, h1, h2⟩) (fun (h : ¬ I' 31 19 ≤ nI p) => absurd (by rw [hf 31 (by decide), h19]; exact nI_le (Nat.le_refl _) (by omega)) h)
    | succ d ih =>
      intro p v2 I' M hd hf h1 h2
      have hp : p < m := by omega
      have ecp : (nI p).toNatClampNeg = p := nI_clamp (by omega)
      refine cl [2, 19, 50] 60 2 _ _ _ _ _ _ ?_
      refine And.intro (fun (h : I' 31 19 ≤ nI p) => absurd h (by rw [hf 31 (by decide), h19]; exact nI_ge hp (by omega))) (fun _ => And.intro (show vp_in (nI p) 10 from vp_in_nI (by omega) (by decide)) ?_)
      refine l2 m 0 p 0 (up2 I' 50 (nI p).toNatClampNeg 0) (by omega) hp (Nat.two_pow_pos m) (fun r => by
        rw [Nat.zero_testBit]
        exact ⟨fun h => (by cases h), fun h => by omega⟩) (fr_up hf (by decide)) (by rw [ecp, up2_at]; rfl) (fun x2 v2 I2 q1 q2 q3 q4 q5 => ?_)
      refine ih (p + 1) v2 I2 (fun r => if r = p then x2 else M r) (by omega) q3 (fun r hr => ?_) (fun r hr => ?_)
      · show I2 50 r = nI (if r = p then x2 else M r)
        by_cases e : r = p
        · subst e; rw [if_pos rfl]; exact q4
        · rw [if_neg e, q5 r e, ecp, up2_nej e]; exact h1 r (by omega)
      · show (if r = p then x2 else M r) < 2 ^ m ∧ ∀ q, (if r = p then x2 else M r).testBit q = true ↔ _
        by_cases e : r = p
        · subst e; rw [if_pos rfl]; exact ⟨q1, q2⟩
        · rw [if_neg e]; exact h2 r (by omega)
  refine cl [2, 19, 50] 60 0 _ _ _ _ _ _ ?_
  exact l1 m 0 none I (fun _ => 0) (by omega) (fr_refl _ _) (fun r hr => by omega) (fun r hr => by omega)
/-- one station: mates all, nobody of those left is ahead of one -/
def oneP (B M : Nat → Nat) (m set left : Nat) : Prop := ∀ p, p < m → set.testBit p = true → sbs set (M p) ∧ B p &&& left = 0
abbrev x_os : Type := (Nat × Nat) × Nat × (Nat → Nat) × (Nat → Nat)
abbrev e_os : x_os → List Value := fun x => [.ref 31, .int (nI x.1.1), .int (nI x.1.2)]
theorem v_os (n : Nat) (h : 3 ≤ n) (x : x_os) : okv (e_os x) ∧ (lvA (e_os x)).length ≤ n := ⟨okv_ref (okv_int (okv_int okv_nil)), h⟩
def mtR (I : hI) (M : Nat → Nat) (m : Nat) : Prop := ∀ p, p < m → I 50 p = nI (M p) ∧ M p < 2 ^ m
def e_oneS : ev := (3, 10, false, 0, 0, sn e_os (fun x _ I _ _ => (x.1.1 < 2 ^ x.2.1 ∧ x.1.2 < 2 ^ x.2.1) ∧ lawR I x.2.2.1 x.2.1 ∧ mtR I x.2.2.2 x.2.1) (fun x _ I J Q v I' J' Q' => I' = I ∧ J' = J ∧ Q' = Q ∧ ∃ b, v = some (.int (bI b)) ∧ (b = true ↔ oneP x.2.2.1 x.2.2.2 x.2.1 x.1.1 x.1.2)))
set_option maxRecDepth 20000 in
theorem c_oneS {l : Launch} : CX l cdX10_isOneStation e_oneS := by
  refine cm_sn RX10 edX10_isOneStation [] true kX10_isOneStation cwX10_isOneStation okX10_isOneStation trivial (by decide) rfl (v_os _ (by decide)) ?_
  intro um zm G Rt ⟨⟨set, left⟩, m, B, M⟩ a I J Q cl hb hp hR
  obtain ⟨⟨hs, hlf⟩, hl, hM⟩ := hp
  have hs : set < 2 ^ m := hs
  have hlf : left < 2 ^ m := hlf
  have hl : lawR I B m := hl
  have hM : mtR I M m := hM
  have hR : ∀ v I' J' Q', (I' = I ∧ J' = J ∧ Q' = Q ∧ ∃ b, v = some (Value.int (bI b)) ∧ (b = true ↔ oneP B M m set left)) → Rt v a I' J' Q' := hR
  obtain ⟨h19, hm, hB, hBm⟩ := hl
  have h2m : 2 ^ m ≤ 2 ^ 10 := Nat.pow_le_pow_right (by decide) hm
  have loop : ∀ d p, d + p = m → (∀ r, r < p → set.testBit r = true → sbs set (M r) ∧ B r &&& left = 0) → G 2 [some (.ref 31), some (.int (nI set)), some (.int (nI left)), some (.int (nI p))] [] a I J Q := by
    intro d
    induction d with
    | zero =>
      intro p hd h0
      obtain rfl : p = m := by omega
      refine cl [2, 45] 60 2 _ _ _ _ _ _ ?_
      exact And.intro (fun _ => And.intro (Or.inr rfl) (hR _ _ _ _ ⟨rfl, rfl, rfl, true, rfl, ⟨fun _ => h0, fun _ => rfl⟩⟩)) (fun (h : ¬ I 31 19 ≤ nI p) => absurd (by rw [h19]; exact nI_le (Nat.le_refl _) (by omega)) h)
    | succ d ih =>
      intro p hd h0
      have hp : p < m := by omega
      have ecp : (nI p).toNatClampNeg = p := nI_clamp (by omega)
      have hin : vp_in (nI p) 10 := vp_in_nI (by omega) (by decide)
      have hbit := bit1 (v := set) (x := p) (by omega) (by omega)
      have hMp := hM p hp
      have hBp := hBm p (by omega)
      have g45 : (set.testBit p = true → sbs set (M p) ∧ B p &&& left = 0) → G 45 [some (.ref 31), some (.int (nI set)), some (.int (nI left)), some (.int (nI p))] [] a I J Q := by
        intro h
        refine cl [2, 45] 60 45 _ _ _ _ _ _ ?_
        have := ih (p + 1) (by omega) (fun r hr hrb => by
          by_cases e : r = p
          · subst e; exact h hrb
          · exact h0 r (by omega) hrb)
        rw [← nI_1 p] at this
        exact this
      have hF : ¬ oneP B M m set left → Rt (some (.int 0)) a I J Q := fun h => hR _ _ _ _ ⟨rfl, rfl, rfl, false, rfl, ⟨fun h => (by cases h), fun h' => absurd h' h⟩⟩
      refine cl [2, 45] 60 2 _ _ _ _ _ _ ?_
      refine And.intro (fun (h : I 31 19 ≤ nI p) => absurd h (by rw [h19]; exact nI_ge hp (by omega))) (fun _ => And.intro (fun (h : ¬ (nI set >>> (nI p &&& 31)) &&& 1 = 1) => ?_) (fun (h : (nI set >>> (nI p &&& 31)) &&& 1 = 1) => And.intro hin (And.intro (fun (h1 : ¬ nI set &&& (I 50 (nI p).toNatClampNeg ^^^ (-1)) = 0) => ?_) (fun (h1 : nI set &&& (I 50 (nI p).toNatClampNeg ^^^ (-1)) = 0) => And.intro hin (And.intro (fun (h2 : I 49 (nI p).toNatClampNeg &&& nI left = 0) => ?_) (fun (h2 : ¬ I 49 (nI p).toNatClampNeg &&& nI left = 0) => ?_))))))
      · rw [hbit] at h
        exact g45 (fun hb => by rw [if_pos hb] at h; exact absurd rfl h)
      · have hbt : set.testBit p = true := by
          cases hq : set.testBit p with
          | true => rfl
          | false => rw [hbit, hq, if_neg (by decide)] at h; exact absurd h (by decide)
        rw [ecp, hMp.1, and_not (by omega) (by omega)] at h1
        exact And.intro (Or.inl rfl) (hF (fun ho => h1 (sub_of (ho p hp hbt).1)))
      · rw [ecp, hMp.1, and_not (by omega) (by omega)] at h1
        rw [ecp, hB p (by omega), fa_and, show (0 : Int32) = nI 0 from rfl, nI_eq (Nat.lt_of_le_of_lt Nat.and_le_left (by omega)) (by decide)] at h2
        exact g45 (fun _ => ⟨fun r hr => sub_bit h1 hr, h2⟩)
      · have hbt : set.testBit p = true := by
          cases hq : set.testBit p with
          | true => rfl
          | false => rw [hbit, hq, if_neg (by decide)] at h; exact absurd h (by decide)
        rw [ecp, hB p (by omega), fa_and, show (0 : Int32) = nI 0 from rfl, nI_eq (Nat.lt_of_le_of_lt Nat.and_le_left (by omega)) (by decide)] at h2
        exact And.intro (Or.inl rfl) (hF (fun ho => h2 (ho p hp hbt).2))
  refine cl [2, 45] 60 0 _ _ _ _ _ _ ?_
  exact loop m 0 (by omega) (fun r hr => by omega)
