/-! Laws -/
def lawsOK (I : hI) (B : Nat → Nat) : Prop := ∀ p, p < 10 → I 5 p = nI (B p) ∧ B p < 1024
abbrev x_lw : Type := Nat × Nat × (Nat → Nat)
abbrev e_lw : x_lw → List Value := fun x => [.ref 4, .int (nI x.1), .int (nI x.2.1)]
theorem v_lw (n : Nat) (h : 3 ≤ n) (x : x_lw) : okv (e_lw x) ∧ (lvA (e_lw x)).length ≤ n := ⟨okv_ref (okv_int (okv_int okv_nil)), h⟩
abbrev p_lw : x_lw → hA → hI → hJ → hQ → Prop := fun x _ I _ _ => lawsOK I x.2.2 ∧ x.1 < 10 ∧ x.2.1 < 10
def e_hasLaw : ev := (3, 1, false, 0, 0, sf e_lw p_lw (fun x _ _ _ _ => some (.int (bI ((x.2.2 x.2.1).testBit x.1)))))
set_option maxRecDepth 20000 in
theorem c_hasLaw {l : Launch} : CX l cdX1_hasLaw e_hasLaw := by
  refine cm_sf RX1 edX1_hasLaw [] true kX1_hasLaw cwX1_hasLaw okX1_hasLaw trivial (by decide) rfl (v_lw _ (by decide)) ?_
  intro um zm G Rt ⟨p, q, B⟩ a I J Q cl hb hp hR
  obtain ⟨hB, hp10, hq10⟩ := hp
  have hp10 : p < 10 := hp10
  have hq10 : q < 10 := hq10
  have hB : lawsOK I B := hB
  have ecl : (nI q).toNatClampNeg = q := nI_clamp (by omega)
  have hbit := nx_bit (k := B q) (j := p) (by have := (hB q hq10).2; omega) (by omega)
  refine cl [] 50 0 _ _ _ _ _ _ ?_
  refine And.intro (show vp_in (nI q) 10 from vp_in_nI hq10 (by decide)) ?_
  refine And.intro (fun (c : ((I 5 (nI q).toNatClampNeg).toUInt32 >>> ((nI p).toUInt32 &&& Int32.toUInt32 31)).toInt32 &&& 1 = 0) => And.intro (Or.inl rfl) (hR _ ?_)) (fun (c : ¬ ((I 5 (nI q).toNatClampNeg).toUInt32 >>> ((nI p).toUInt32 &&& Int32.toUInt32 31)).toInt32 &&& 1 = 0) => And.intro (Or.inr rfl) (hR _ ?_))
  · rw [ecl, (hB q hq10).1, hbit] at c
    simp only [c]; rfl
  · rw [ecl, (hB q hq10).1, hbit, Bool.not_eq_false] at c
    simp only [c]; rfl
def e_change : ev := (3, 1, false, 0, 0, sn e_lw p_lw (fun x _ I J Q v I' J' Q' => v = none ∧ I' = up2 I 5 x.2.1 (nI (x.2.2 x.2.1 ^^^ 2 ^ x.1)) ∧ J' = J ∧ Q' = Q))
set_option maxRecDepth 20000 in
theorem c_change {l : Launch} : CX l cdX1_change e_change := by
  refine cm_sn RX1 edX1_change [] false kX1_change cwX1_change okX1_change trivial (by decide) rfl (v_lw _ (by decide)) ?_
  intro um zm G Rt ⟨p, q, B⟩ a I J Q cl hb hp hR
  obtain ⟨hB, hp10, hq10⟩ := hp
  have hp10 : p < 10 := hp10
  have hq10 : q < 10 := hq10
  have hB : lawsOK I B := hB
  have ecl : (nI q).toNatClampNeg = q := nI_clamp (by omega)
  have hin : vp_in (nI q) 10 := vp_in_nI hq10 (by decide)
  have e1 : (1 : Int32) <<< (nI p &&& 31) = nI (2 ^ p) := by
    have : 1 * 2 ^ p < 2 ^ 32 := by rw [Nat.one_mul]; exact Nat.pow_lt_pow_right (by decide) (by omega)
    rw [show (1 : Int32) = nI 1 from rfl, shlN (by omega) this, Nat.one_mul]
  refine cl [] 50 0 _ _ _ _ _ _ ?_
  refine And.intro hin (And.intro hin ?_)
  have := hR none (up2 I 5 (nI q).toNatClampNeg (I 5 (nI q).toNatClampNeg ^^^ ((1 : Int32) <<< (nI p &&& 31)))) J Q ⟨rfl, by rw [ecl, (hB q hq10).1, e1, nx_xor], rfl, rfl⟩
  exact this
/-- one round over the punches, up to p -/
def mlp (B : Nat → Nat) (l : Nat) : Nat → Nat
  | 0 => l
  | p + 1 => if (mlp B l p).testBit p = true then mlp B l p ||| B p else mlp B l p
def mlr (B : Nat → Nat) (l : Nat) : Nat → Nat
  | 0 => l
  | r + 1 => mlp B (mlr B l r) 10
def mustN (B : Nat → Nat) (p q : Nat) : Bool := (mlr B (B q) 9).testBit p
theorem mlp_lt {B : Nat → Nat} (hB : ∀ p, p < 10 → B p < 1024) {l : Nat} (hl : l < 1024) : ∀ p, p ≤ 10 → mlp B l p < 1024
  | 0, _ => hl
  | p + 1, h => by
    have ih := mlp_lt hB hl p (by omega)
    unfold mlp
    split
    · exact Nat.or_lt_two_pow (n := 10) ih (hB p (by omega))
    · exact ih
theorem mlr_lt {B : Nat → Nat} (hB : ∀ p, p < 10 → B p < 1024) {l : Nat} (hl : l < 1024) : ∀ r, mlr B l r < 1024
  | 0 => hl
  | r + 1 => mlp_lt hB (mlr_lt hB hl r) 10 (Nat.le_refl _)
def e_must : ev := (3, 1, false, 0, 0, sf e_lw p_lw (fun x _ _ _ _ => some (.int (bI (mustN x.2.2 x.1 x.2.1)))))
set_option maxRecDepth 20000 in
theorem c_must {l : Launch} : CX l cdX1_mustLead e_must := by
  refine cm_sf RX1 edX1_mustLead [] true kX1_mustLead cwX1_mustLead okX1_mustLead trivial (by decide) rfl (v_lw _ (by decide)) ?_
  intro um zm G Rt ⟨p, q, B⟩ a I J Q cl hb hp hR
  obtain ⟨hB, hp10, hq10⟩ := hp
  have hp10 : p < 10 := hp10
  have hq10 : q < 10 := hq10
  have hB : lawsOK I B := hB
  have hB2 : ∀ p, p < 10 → B p < 1024 := fun p h => (hB p h).2
  have l2 : ∀ j i r m, j + i = 10 → m < 1024 → (G 10 [some (.ref 4), some (.int (nI p)), some (.int (nI q)), some (.int (nI (mlp B m 10))), some (.int (nI (r + 1))), some (.int (nI 10))] [] a I J Q) → G 20 [some (.ref 4), some (.int (nI p)), some (.int (nI q)), some (.int (nI (mlp B m i))), some (.int (nI r)), some (.int (nI i))] [] a I J Q := by
    intro j
    induction j with
    | zero =>
      intro i r m hj hm hK
      obtain rfl : i = 10 := by omega
      rw [← nI_1 r] at hK
      refine cl [10, 20] 60 20 _ _ _ _ _ _ ?_
      exact And.intro (fun _ => hK) (fun c => absurd (by decide) c)
    | succ j ih =>
      intro i r m hj hm hK
      have ih' := ih (i + 1) r m (by omega) hm hK
      rw [← nI_1 i] at ih'
      have hml := mlp_lt hB2 hm i (by omega)
      have hbit := nx_bit (k := mlp B m i) (j := i) (by omega) (by omega)
      refine cl [10, 20] 60 20 _ _ _ _ _ _ ?_
      refine And.intro (fun c => absurd c (nI_ge (a := i) (b := 10) (by omega) (by decide))) (fun _ => And.intro (fun (c : ((nI (mlp B m i)).toUInt32 >>> ((nI i).toUInt32 &&& Int32.toUInt32 31)).toInt32 &&& 1 = 0) => ?_) (fun (c : ¬ ((nI (mlp B m i)).toUInt32 >>> ((nI i).toUInt32 &&& Int32.toUInt32 31)).toInt32 &&& 1 = 0) => And.intro (show vp_in (nI i) 10 from vp_in_nI (by omega) (by decide)) ?_))
      · rw [hbit] at c
        rw [show mlp B m (i + 1) = mlp B m i from if_neg (by rw [c]; decide)] at ih'
        exact ih'
      · rw [hbit, Bool.not_eq_false] at c
        have e1 : nI (mlp B m i) ||| I 5 (nI i).toNatClampNeg = nI (mlp B m (i + 1)) := by
          rw [nI_clamp (by omega), (hB i (by omega)).1, fa_or]
          exact congrArg nI (if_pos c).symm
        rw [← e1] at ih'
        exact ih'
  have l1 : ∀ j r v5, j + r = 10 → 1 ≤ r → G 10 [some (.ref 4), some (.int (nI p)), some (.int (nI q)), some (.int (nI (mlr B (B q) (r - 1)))), some (.int (nI r)), v5] [] a I J Q := by
    intro j
    induction j with
    | zero =>
      intro r v5 hj h1
      obtain rfl : r = 10 := by omega
      have hbit := nx_bit (k := mlr B (B q) 9) (j := p) (by have := mlr_lt hB2 (hB2 q hq10) 9; omega) (by omega)
      refine cl [10, 20] 60 10 _ _ _ _ _ _ ?_
      refine And.intro (fun _ => And.intro (fun (c : ((nI (mlr B (B q) 9)).toUInt32 >>> ((nI p).toUInt32 &&& Int32.toUInt32 31)).toInt32 &&& 1 = 0) => And.intro (Or.inl rfl) (hR _ ?_)) (fun (c : ¬ ((nI (mlr B (B q) 9)).toUInt32 >>> ((nI p).toUInt32 &&& Int32.toUInt32 31)).toInt32 &&& 1 = 0) => And.intro (Or.inr rfl) (hR _ ?_))) (fun c => absurd (by decide) c)
      · rw [hbit] at c
        simp only [mustN, c]; rfl
      · rw [hbit, Bool.not_eq_false] at c
        simp only [mustN, c]; rfl
    | succ j ih =>
      intro r v5 hj h1
      refine cl [10, 20] 60 10 _ _ _ _ _ _ ?_
      refine And.intro (fun c => absurd c (nI_ge (a := r) (b := 10) (by omega) (by decide))) (fun _ => ?_)
      have h2 := ih (r + 1) (some (.int (nI 10))) (by omega) (by omega)
      rw [show r + 1 - 1 = (r - 1) + 1 by omega] at h2
      exact l2 10 0 r (mlr B (B q) (r - 1)) rfl (mlr_lt hB2 (hB2 q hq10) _) h2
  refine cl [10, 20] 60 0 _ _ _ _ _ _ ?_
  refine And.intro (show vp_in (nI q) 10 from vp_in_nI hq10 (by decide)) ?_
  have := l1 9 1 none rfl (Nat.le_refl _)
  rw [show mlr B (B q) (1 - 1) = B q from rfl, ← (hB q hq10).1] at this
  rw [← nI_clamp (n := q) (by omega)] at this
  rw [nI_clamp (n := q) (by omega)] at this
  have ecl : (nI q).toNatClampNeg = q := nI_clamp (by omega)
  show G 10 [some (.ref 4), some (.int (nI p)), some (.int (nI q)), some (.int (I 5 (nI q).toNatClampNeg)), some (.int 1), none] [] a I J Q
  rw [ecl]
  exact this
