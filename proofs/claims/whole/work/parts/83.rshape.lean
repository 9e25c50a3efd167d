/-! REFERENCE: shape -/
def orN (f : Nat → Nat) : Nat → Nat
  | 0 => 0
  | y + 1 => orN f y ||| f y
theorem or_z {a b : Nat} : a ||| b = 0 ↔ a = 0 ∧ b = 0 := by
  constructor
  · intro h
    constructor
    · apply Nat.eq_of_testBit_eq
      intro i
      have := congrArg (fun z => z.testBit i) h
      simp only [Nat.testBit_or, Nat.zero_testBit, Bool.or_eq_false_iff] at this
      rw [this.1, Nat.zero_testBit]
    · apply Nat.eq_of_testBit_eq
      intro i
      have := congrArg (fun z => z.testBit i) h
      simp only [Nat.testBit_or, Nat.zero_testBit, Bool.or_eq_false_iff] at this
      rw [this.2, Nat.zero_testBit]
  · rintro ⟨rfl, rfl⟩; rfl
theorem orN_z (f : Nat → Nat) : ∀ y, orN f y = 0 ↔ ∀ q, q < y → f q = 0
  | 0 => ⟨fun _ q hq => by omega, fun _ => rfl⟩
  | y + 1 => by
    show orN f y ||| f y = 0 ↔ _
    rw [or_z, orN_z f y]
    constructor
    · rintro ⟨h1, h2⟩ q hq
      by_cases e : q = y
      · rw [e]; exact h2
      · exact h1 q (by omega)
    · intro h
      exact ⟨fun q hq => h q (by omega), h y (by omega)⟩
theorem orN_lt {f : Nat → Nat} (hf : ∀ y, f y < 256) : ∀ y, orN f y < 256
  | 0 => (by decide : 0 < 256)
  | y + 1 => or_bnd (n := 8) (orN_lt hf y) (hf y)
theorem ofR_cf {f : Nat → Nat} (hf : ∀ y, f y < 256) : ofR f = cfN f 8 := by
  unfold ofR
  rw [show (fun y => f y % 256) = f from funext (fun y => Nat.mod_eq_of_lt (hf y))]
theorem ofR_z {f : Nat → Nat} (hf : ∀ y, f y < 256) : ofR f = 0 ↔ orN f 8 = 0 := by
  rw [orN_z]
  constructor
  · intro h q hq
    rw [← ofR_row hf hq, h]
    unfold rowN
    simp
  · intro h
    apply Nat.eq_of_testBit_eq
    intro i
    rw [ofR_bit hf, Nat.zero_testBit]
    by_cases hi : i < 64
    · rw [h (i / 8) (by omega), Nat.zero_testBit, Bool.and_false]
    · rw [decide_eq_false hi, Bool.false_and]
/-- which fault a range of a sheet has -/
def shF (lane n ln i : Int32) : Int32 := if lane = -9 then 1 else if lane = ln then (if i < 0 then 3 else if i ≤ n - 8 then 0 else 3) else 2
def rsfr (I I' : hI) : Prop := fr I I' [31, 35] ∧ ∀ j, I' 31 j = up2 I 31 0 0 31 j
def rsoP (I I' : hI) (n : Nat) (b i : Nat) (v : Option Value) : Prop := (cfN (fun y => b8 (I 40 (64 * b + i + y))) 8 = 0 → v = some (.int (-2)) ∧ rsfr I I') ∧ (cfN (fun y => b8 (I 40 (64 * b + i + y))) 8 ≠ 0 → (n = 12 → v = some (.int (-4)) ∧ rsfr I I') ∧ (n ≠ 12 → v = some (.int (nI n)) ∧ ∃ I3, rsfr I I3 ∧ rAdd I3 I' (cfN (fun y => b8 (I 40 (64 * b + i + y))) 8) n))
def rspP (I I' : hI) (n : Nat) (b ln i : Int32) (v : Option Value) : Prop := (wi b 0 3 = false → v = some (.int (-1)) ∧ I' = up2 I 31 0 0) ∧ (wi b 0 3 = true → (wi ln 0 2 = false → v = some (.int (-2)) ∧ I' = up2 I 31 0 0) ∧ (wi ln 0 2 = true → (∀ e, shF (I 38 b.toNatClampNeg) (I 39 b.toNatClampNeg) ln i = e → e ≠ 0 → v = some (.int (-10 - e)) ∧ I' = up2 (up2 I 31 0 0) 31 0 e) ∧ (shF (I 38 b.toNatClampNeg) (I 39 b.toNatClampNeg) ln i = 0 → rsoP I I' n b.toNatClampNeg i.toNatClampNeg v)))
def e_rshape : ev := (4, 10, false, 0, 0, sn (fun x : (Int32 × Int32 × Int32) × Nat => em3 x.1) (fun x _ I _ _ => I 31 2 = nI x.2 ∧ x.2 ≤ 12 ∧ ∀ b, b < 4 → I 38 b ≠ -9 → ∃ n, n ≤ 64 ∧ I 39 b = nI n) (fun x _ I J Q v I' J' Q' => J' = J ∧ Q' = Q ∧ rspP I I' x.2 x.1.1 x.1.2.1 x.1.2.2 v))
set_option maxRecDepth 20000 in
theorem c_rshape {l : Launch} : CX l cdX10_shape e_rshape := by
  refine cm_sn RX10 edX10_shape [e_within, e_fails, e_comes] false kX10_shape cwX10_shape okX10_shape ⟨⟨_, rfl, c_rwithin⟩, ⟨_, rfl, c_fails⟩, ⟨_, rfl, c_comes⟩, trivial⟩ (by decide) rfl (fun x => vm3 _ (by decide) x.1) ?_
  intro um zm G Rt ⟨⟨x, ln, i⟩, n⟩ a I J Q cl hb hp hR
  obtain ⟨h2, hn, h39⟩ := hp
  have h2 : I 31 2 = nI n := h2
  have hn : n ≤ 12 := hn
  have h39 : ∀ b, b < 4 → I 38 b ≠ -9 → ∃ n, n ≤ 64 ∧ I 39 b = nI n := h39
  have hR : ∀ v I' J' Q', (J' = J ∧ Q' = Q ∧ rspP I I' n x ln i v) → Rt v a I' J' Q' := hR
  refine cl [16, 28, 55, 72, 89, 95, 101, 159, 173, 177] 90 0 _ _ _ _ _ _ ?_
  refine Exists.intro (x, 0, 3) (And.intro rfl (And.intro trivial ?_))
  refine bI_cases (wi x 0 3) (fun r1 => ?_) (fun r1 => hR _ _ _ _ ⟨rfl, rfl, fun _ => ⟨rfl, rfl⟩, fun h => by (rw [h] at r1; cases r1)⟩)
  refine cl [28, 55, 72, 89, 95, 101, 159, 173, 177] 90 16 _ _ _ _ _ _ ?_
  refine Exists.intro (ln, 0, 2) (And.intro rfl (And.intro trivial ?_))
  refine bI_cases (wi ln 0 2) (fun r2 => ?_) (fun r2 => hR _ _ _ _ ⟨rfl, rfl, fun h => by (rw [h] at r1; cases r1), fun _ => ⟨fun _ => ⟨rfl, rfl⟩, fun h => by (rw [h] at r2; cases r2)⟩⟩)
  obtain ⟨b, hb3, rfl⟩ := wi_nat (n := 3) (by decide) r1
  have ecb : (nI b).toNatClampNeg = b := nI_clamp (by omega)
  have hin : vp_in (nI b) 4 := vp_in_nI (by omega) (by decide)
  have hfail : ∀ e, shF (I 38 b) (I 39 b) ln i = e → e ≠ 0 → Rt (some (.int (-10 - e))) a (up2 (up2 I 31 0 0) 31 0 e) J Q := fun e he h0 => hR _ _ _ _ ⟨rfl, rfl, fun h => by (rw [h] at r1; cases r1), fun _ => ⟨fun h => by (rw [h] at r2; cases r2), fun _ => ⟨fun e' he' _ => by
    rw [ecb] at he'
    rw [← he', he]
    exact ⟨rfl, rfl⟩, fun h => by
    rw [ecb, he] at h
    exact absurd h h0⟩⟩⟩
  have hgo : ∀ v I', shF (I 38 b) (I 39 b) ln i = 0 → rsoP I I' n b i.toNatClampNeg v → Rt v a I' J Q := fun v I' h0 h => hR _ _ _ _ ⟨rfl, rfl, fun h => by (rw [h] at r1; cases r1), fun _ => ⟨fun h => by (rw [h] at r2; cases r2), fun _ => ⟨fun e' he' h' => by
    rw [ecb, h0] at he'
    exact absurd he'.symm h', fun _ => by rw [ecb]; exact h⟩⟩⟩
  have e38 : up2 I 31 0 0 38 (nI b).toNatClampNeg = I 38 b := by rw [up2_ne (by decide), ecb]
  have e39 : up2 I 31 0 0 39 (nI b).toNatClampNeg = I 39 b := by rw [up2_ne (by decide), ecb]
  have g89 : shF (I 38 b) (I 39 b) ln i = 3 → G 89 [some (.ref 31), some (.int (nI b)), some (.int ln), some (.int i), none, none] [] a (up2 I 31 0 0) J Q := fun h => by
    refine cl [95, 101, 159, 173, 177] 90 89 _ _ _ _ _ _ ?_
    refine Exists.intro 3 (And.intro rfl (And.intro trivial ?_))
    rintro v I2 J2 Q2 ⟨rfl, rfl, rfl, rfl⟩
    exact hfail 3 h (by decide)
  have g95 : shF (I 38 b) (I 39 b) ln i = 0 → ∀ i', i = nI i' → i' ≤ 56 → G 95 [some (.ref 31), some (.int (nI b)), some (.int ln), some (.int i), none, none] [] a (up2 I 31 0 0) J Q := fun h0 i' hi hi56 => by
    subst hi
    have hgo : ∀ v I', rsoP I I' n b i' v → Rt v a I' J Q := fun v I' h => hgo v I' h0 (by rw [nI_clamp (by omega)]; exact h)
    have hF : ∀ y, (fun y => b8 (I 40 (64 * b + i' + y))) y < 256 := fun y => b8_lt _
    have hoc := ofR_cf hF
    have hoz := ofR_z hF
    have hrow := fun y (hy : y < 8) => ofR_row hF hy
    have hclt := ofR_lt (fun y => b8 (I 40 (64 * b + i' + y)))
    unfold rsoP at hgo
    rw [← hoc] at hgo
    generalize hfd : (fun y => b8 (I 40 (64 * b + i' + y))) = f at *
    have hf1 : ∀ y, f y = b8 (I 40 (64 * b + i' + y)) := fun y => by rw [← hfd]
    have loop : ∀ d y (I' : hI), d + y = 8 → rsfr I I' → (∀ q, q < y → I' 35 q = nI (f q)) → G 101 [some (.ref 31), some (.int (nI b)), some (.int ln), some (.int (nI i')), some (.int (nI (orN f y))), some (.int (nI y))] [] a I' J Q := by
      intro d
      induction d with
      | zero =>
        intro y I' hd h1 h3
        obtain rfl : y = 8 := by omega
        have hol := orN_lt hF 8
        refine cl [101, 159, 173, 177] 90 101 _ _ _ _ _ _ ?_
        refine And.intro (fun _ => ?_) (fun c => absurd (by decide) c)
        refine And.intro (fun (c : ¬ nI (orN f 8) = 0) => ?_) (fun (c : nI (orN f 8) = 0) => ?_)
        · have hc0 : ofR f ≠ 0 := fun e => c (by rw [hoz.mp e]; rfl)
          have e2 : I' 31 2 = nI n := by rw [h1.2 2, up2_nej (by decide)]; exact h2
          have g177 : ∀ v I2, (n = 12 → v = -4 ∧ rsfr I I2) → (n ≠ 12 → v = nI n ∧ ∃ I3, rsfr I I3 ∧ rAdd I3 I2 (ofR f) n) → G 177 [some (.ref 31), some (.int (nI b)), some (.int ln), some (.int (nI i')), some (.int (nI (orN f 8))), some (.int (nI 8))] [.int v] a I2 J Q := fun v I2 k1 k2 => by
            refine cl [101, 159, 173] 90 177 _ _ _ _ _ _ ?_
            exact hgo _ _ ⟨fun h => absurd h hc0, fun _ => ⟨fun e => ⟨by rw [(k1 e).1], (k1 e).2⟩, fun e => ⟨by rw [(k2 e).1], (k2 e).2⟩⟩⟩
          refine cl [101, 173, 177] 90 159 _ _ _ _ _ _ ?_
          refine And.intro (fun (c : ¬ I' 31 2 = 12) => ?_) (fun (c : I' 31 2 = 12) => ?_)
          · have hn12 : n ≠ 12 := fun e => c (by rw [e2, e]; rfl)
            refine cl [101, 159, 177] 90 173 _ _ _ _ _ _ ?_
            refine Exists.intro (ofR f, n) (And.intro rfl (And.intro ⟨hclt, hc0, fun y hy => by rw [Nat.zero_add, h3 y hy, hrow y hy, hf1], e2, (show n < 12 by omega)⟩ ?_))
            rintro v I2 J2 Q2 ⟨rfl, rfl, rfl, hadd⟩
            exact g177 _ _ (fun e => absurd e hn12) (fun _ => ⟨rfl, I', h1, hadd⟩)
          · have hn12 : n = 12 := by rw [e2] at c; exact (nI_eq (b := 12) (by omega) (by decide)).mp c
            exact g177 _ _ (fun _ => ⟨rfl, h1⟩) (fun e => absurd hn12 e)
        · have hc0 : ofR f = 0 := hoz.mpr ((nI_eq (b := 0) (by omega) (by decide)).mp c)
          exact hgo _ _ ⟨fun _ => ⟨rfl, h1⟩, fun h => absurd hc0 h⟩
      | succ d ih =>
        intro y I' hd h1 h3
        have e1 : 64 * nI b + nI i' + nI y = nI (64 * b + i' + y) := by rw [show (64 : Int32) = nI 64 from rfl, pk_mul, nI_add, nI_add]
        have ec : (64 * nI b + nI i' + nI y).toNatClampNeg = 64 * b + i' + y := by rw [e1]; exact nI_clamp (by omega)
        have ecy : (nI y).toNatClampNeg = y := nI_clamp (by omega)
        have hiny : vp_in (nI y) 8 := vp_in_nI (by omega) (by decide)
        refine cl [101, 159, 173, 177] 90 101 _ _ _ _ _ _ ?_
        refine And.intro (fun c => absurd c (nI_ge (a := y) (b := 8) (by omega) (by decide))) (fun _ => And.intro (show vp_in (64 * nI b + nI i' + nI y) 256 from by rw [e1]; exact vp_in_nI (by omega) (by decide)) (And.intro hiny (And.intro hiny ?_)))
        have ev : up2 I' 35 (nI y).toNatClampNeg (I' 40 (64 * nI b + nI i' + nI y).toNatClampNeg &&& 255) 35 (nI y).toNatClampNeg = nI (f y) := by
          rw [up2_at, ec, h1.1 40 (by decide), b8_and, hf1]
        have := ih (y + 1) (up2 I' 35 (nI y).toNatClampNeg (I' 40 (64 * nI b + nI i' + nI y).toNatClampNeg &&& 255)) (by omega) ⟨fr_up h1.1 (by decide), fun j => by rw [up2_ne (by decide)]; exact h1.2 j⟩ (fun q hq => by
          by_cases e : q = y
          · subst e
            rw [← ev, ecy]
          · rw [ecy, up2_nej e]; exact h3 q (by omega))
        rw [show orN f (y + 1) = orN f y ||| f y from rfl, ← fa_or, ← ev, ← nI_1 y] at this
        exact this
    refine cl [101, 159, 173, 177] 90 95 _ _ _ _ _ _ ?_
    exact loop 8 0 _ rfl ⟨fr_up (fr_refl _ _) (by decide), fun _ => rfl⟩ (fun q hq => by omega)
  have g72 : I 38 b ≠ -9 → I 38 b = ln → G 72 [some (.ref 31), some (.int (nI b)), some (.int ln), some (.int i), none, none] [] a (up2 I 31 0 0) J Q := fun k1 k2 => by
    obtain ⟨w, hw, hw39⟩ := h39 b (by omega) k1
    refine cl [89, 95, 101, 159, 173, 177] 90 72 _ _ _ _ _ _ ?_
    refine And.intro (fun (c : i < 0) => g89 ?_) (fun (c : ¬ i < 0) => And.intro hin (And.intro (fun (c3 : i ≤ up2 I 31 0 0 39 (nI b).toNatClampNeg - 8) => ?_) (fun (c3 : ¬ i ≤ up2 I 31 0 0 39 (nI b).toNatClampNeg - 8) => g89 ?_)))
    · unfold shF
      rw [if_neg k1, if_pos k2, if_pos c]
    · rw [e39] at c3
      obtain ⟨i', hi', rfl⟩ := nI_of c
      refine g95 (by unfold shF; rw [if_neg k1, if_pos k2, if_neg c, if_pos c3]) i' rfl ?_
      rw [hw39, fa_le] at c3
      have hz : nI w - 8 = zI ((w : Int) - 8) := by
        rw [show (8 : Int32) = zI 8 from rfl, zI_nat, zI_sub]
      rw [hz, zI_toInt (by omega) (by omega), zI_nat, zI_toInt (by omega) (by omega)] at c3
      omega
    · rw [e39] at c3
      unfold shF
      rw [if_neg k1, if_pos k2, if_neg c, if_neg c3]
  have g55 : (I 38 b = -9 ∨ I 38 b = ln) → G 55 [some (.ref 31), some (.int (nI b)), some (.int ln), some (.int i), none, none] [] a (up2 I 31 0 0) J Q := fun k => by
    refine cl [72, 89, 95, 101, 159, 173, 177] 90 55 _ _ _ _ _ _ ?_
    refine And.intro hin (And.intro (fun (c : ¬ up2 I 31 0 0 38 (nI b).toNatClampNeg = -9) => ?_) (fun (c : up2 I 31 0 0 38 (nI b).toNatClampNeg = -9) => ?_))
    · rw [e38] at c
      rcases k with k | k
      · exact absurd k c
      · exact g72 c k
    · rw [e38] at c
      refine Exists.intro 1 (And.intro rfl (And.intro trivial ?_))
      rintro v I2 J2 Q2 ⟨rfl, rfl, rfl, rfl⟩
      exact hfail 1 (by unfold shF; rw [if_pos c]) (by decide)
  refine cl [55, 72, 89, 95, 101, 159, 173, 177] 90 28 _ _ _ _ _ _ ?_
  refine And.intro hin (And.intro (fun (c : up2 I 31 0 0 38 (nI b).toNatClampNeg = -9) => ?_) (fun (c : ¬ up2 I 31 0 0 38 (nI b).toNatClampNeg = -9) => And.intro hin (And.intro (fun (c1 : up2 I 31 0 0 38 (nI b).toNatClampNeg = ln) => ?_) (fun (c1 : ¬ up2 I 31 0 0 38 (nI b).toNatClampNeg = ln) => ?_))))
  · rw [e38] at c
    exact g55 (Or.inl c)
  · rw [e38] at c1
    exact g55 (Or.inr c1)
  · rw [e38] at c c1
    refine Exists.intro 2 (And.intro rfl (And.intro trivial ?_))
    rintro v I2 J2 Q2 ⟨rfl, rfl, rfl, rfl⟩
    exact hfail 2 (by unfold shF; rw [if_neg c, if_neg c1]) (by decide)
